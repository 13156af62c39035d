/-! ===== what hangs still ===== -/
def hgB (tw tx ty : Nat → Nat) (n p S : Nat) : Bool := decide (plB (tA tw tx p) S.testBit n = 0) && decide (plB (tL tw ty p) S.testBit n = 0)
def hgP (tw tx ty : Nat → Nat) (n p S : Nat) : Bool := !Nat.beq S 0 && hgB tw tx ty n p S
theorem hgP_1 {tw tx ty : Nat → Nat} {n p j : Nat} (hj : 1 ≤ j) : hgP tw tx ty n p j = hgB tw tx ty n p j := by
  unfold hgP
  have e : Nat.beq j 0 = false := by
    rw [Bool.eq_false_iff]
    intro z
    have := Nat.eq_of_beq_eq_true z
    omega
  rw [e]
  rfl
theorem hgB_t {tw tx ty : Nat → Nat} {n p S : Nat} : hgB tw tx ty n p S = true ↔ (plB (tA tw tx p) S.testBit n = 0 ∧ plB (tL tw ty p) S.testBit n = 0) := by
  unfold hgB
  rw [Bool.and_eq_true, decide_eq_true_eq, decide_eq_true_eq]
set_option maxRecDepth 100000 in
theorem c_X1_hangs {l : Launch} {Crew_acrossSum Crew_alongSum Rep_toldMints Rep_walls : Int32} {Crew_members Rep_mintX Rep_mintY Rep_wall Rep_mintOf Rep_grainsOf : Nat → Int32}  {s tw tx ty : Nat → Nat} {n c p S : Nat} (hn : n ≤ 9) (hc : c ≤ 48) (hp : p ≤ 383) (hM : crC c Crew_members Rep_mintOf Rep_grainsOf Rep_mintX Rep_mintY s tw tx ty n) : MetP l 4 yX1_hangs cX1_hangs 3 (some .boolean) 0 0 [.inr (some (.inl 0)), .inl (nI S), .inl (nI p)] [.inr (1, [.inr (some (.inl 2)), .inr (some (.inl 1)), .inl ((nI n)), .inl Crew_acrossSum, .inl Crew_alongSum]), .inl (0, 9, Crew_members), .inr (6, [.inr (some (.inl 3)), .inr (some (.inl 4)), .inr (some (.inl 5)), .inr (some (.inl 6)), .inr (some (.inl 7)), .inl Rep_toldMints, .inl Rep_walls, .inl ((nI c))]), .inl (0, 8, Rep_mintX), .inl (0, 8, Rep_mintY), .inl (2, 384, Rep_wall), .inl (0, 48, Rep_mintOf), .inl (0, 48, Rep_grainsOf)] (fun r h' => ∃ a b : Int32, r = some (.inl (bI (hgB tw tx ty n p S = true))) ∧ h' = [.inr (1, [.inr (some (.inl 2)), .inr (some (.inl 1)), .inl ((nI n)), .inl a, .inl b]), .inl (0, 9, Crew_members), .inr (6, [.inr (some (.inl 3)), .inr (some (.inl 4)), .inr (some (.inl 5)), .inr (some (.inl 6)), .inr (some (.inl 7)), .inl Rep_toldMints, .inl Rep_walls, .inl ((nI c))]), .inl (0, 8, Rep_mintX), .inl (0, 8, Rep_mintY), .inl (2, 384, Rep_wall), .inl (0, 48, Rep_mintOf), .inl (0, 48, Rep_grainsOf)]) := by
  refine m_X1_hangs (Nat.le_of_ble_eq_true rfl) ?_
  refine call0 (c_X1_pullTogether (B := S.testBit) (s := s) (tw := tw) (tx := tx) (ty := ty) (n := n) (c := c) (p := p) hn hc hp (fun i hi => hasB_n (by omega)) hM) rfl rfl ?_
  rintro r h' ⟨rfl, rfl⟩
  refine And.intro (fun (w : plB (tA tw tx p) S.testBit n = 0) => ?_) (fun (w : ¬ plB (tA tw tx p) S.testBit n = 0) => ?_)
  · refine And.intro (fun (v : plB (tL tw ty p) S.testBit n = 0) => ?_) (fun (v : ¬ plB (tL tw ty p) S.testBit n = 0) => ?_)
    · exact And.intro (Or.inr rfl) ⟨_, _, by rw [bI_t (hgB_t.mpr ⟨w, v⟩)], rfl⟩
    · exact And.intro (Or.inl rfl) ⟨_, _, by rw [bI_f (fun z => v (hgB_t.mp z).2)], rfl⟩
  · exact And.intro (Or.inl rfl) ⟨_, _, by rw [bI_f (fun z => w (hgB_t.mp z).1)], rfl⟩
set_option maxRecDepth 100000 in
theorem c_X1_waysToHang {l : Launch} {Crew_acrossSum Crew_alongSum Rep_toldMints Rep_walls : Int32} {Crew_members Rep_mintX Rep_mintY Rep_wall Rep_mintOf Rep_grainsOf : Nat → Int32}  {s tw tx ty : Nat → Nat} {n c p : Nat} (hn1 : 1 ≤ n) (hn : n ≤ 9) (hc : c ≤ 48) (hp : p ≤ 383) (hM : crC c Crew_members Rep_mintOf Rep_grainsOf Rep_mintX Rep_mintY s tw tx ty n) : MetP l 5 yX1_waysToHang cX1_waysToHang 4 (some .int) 0 0 [.inr (some (.inl 0)), .inl (nI p)] [.inr (1, [.inr (some (.inl 2)), .inr (some (.inl 1)), .inl ((nI n)), .inl Crew_acrossSum, .inl Crew_alongSum]), .inl (0, 9, Crew_members), .inr (6, [.inr (some (.inl 3)), .inr (some (.inl 4)), .inr (some (.inl 5)), .inr (some (.inl 6)), .inr (some (.inl 7)), .inl Rep_toldMints, .inl Rep_walls, .inl ((nI c))]), .inl (0, 8, Rep_mintX), .inl (0, 8, Rep_mintY), .inl (2, 384, Rep_wall), .inl (0, 48, Rep_mintOf), .inl (0, 48, Rep_grainsOf)] (fun r h' => ∃ a b : Int32, r = some (.inl (nI (wcG (hgP tw tx ty n p) (2 ^ n)))) ∧ h' = [.inr (1, [.inr (some (.inl 2)), .inr (some (.inl 1)), .inl ((nI n)), .inl a, .inl b]), .inl (0, 9, Crew_members), .inr (6, [.inr (some (.inl 3)), .inr (some (.inl 4)), .inr (some (.inl 5)), .inr (some (.inl 6)), .inr (some (.inl 7)), .inl Rep_toldMints, .inl Rep_walls, .inl ((nI c))]), .inl (0, 8, Rep_mintX), .inl (0, 8, Rep_mintY), .inl (2, 384, Rep_wall), .inl (0, 48, Rep_mintOf), .inl (0, 48, Rep_grainsOf)]) := by
  have pw := pw_le n (by omega)
  have pw2 := (pw_h n (by omega) hn1)
  refine m_X1_waysToHang (fun μ L st h => ∃ (j : Nat) (a b : Int32), μ = 2 ^ n - j ∧ 1 ≤ j ∧ j ≤ 2 ^ n ∧ L = [some (.inr (some (.inl 0))), some (.inl (nI p)), some (.inl (nI (wcG (hgP tw tx ty n p) j))), some (.inl (nI j))] ∧ st = [] ∧ h = [.inr (1, [.inr (some (.inl 2)), .inr (some (.inl 1)), .inl ((nI n)), .inl a, .inl b]), .inl (0, 9, Crew_members), .inr (6, [.inr (some (.inl 3)), .inr (some (.inl 4)), .inr (some (.inl 5)), .inr (some (.inl 6)), .inr (some (.inl 7)), .inl Rep_toldMints, .inl Rep_walls, .inl ((nI c))]), .inl (0, 8, Rep_mintX), .inl (0, 8, Rep_mintY), .inl (2, 384, Rep_wall), .inl (0, 48, Rep_mintOf), .inl (0, 48, Rep_grainsOf)]) (Nat.le_of_ble_eq_true rfl) ?_ ?_
  · exact ⟨_, 1, _, _, rfl, by omega, by omega, rfl, rfl, rfl⟩
  · rintro μ L st h ⟨j, a, b, hμ, h0, h1, rfl, rfl, rfl⟩
    refine And.intro (fun (q1 : f_shl 1 (nI n) ≤ nI j) => ?_) (fun (q1 : ¬ f_shl 1 (nI n) ≤ nI j) => ?_) <;> rw [pw_n n (by omega)] at q1
    · have q1 := (nI_leI (by omega) (by omega)).mp q1
      obtain rfl : j = 2 ^ n := by omega
      exact ⟨a, b, rfl, rfl⟩
    · have q1 : j < 2 ^ n := Nat.lt_of_not_le fun z => q1 ((nI_leI (by omega) (by omega)).mpr z)
      refine call0 (c_X1_hangs (s := s) (tw := tw) (tx := tx) (ty := ty) (n := n) (c := c) (p := p) (S := j) hn hc hp hM) rfl rfl ?_
      rintro r h' ⟨a', b', rfl, rfl⟩
      refine br_b (fun w => ?_) (fun w => ?_)
      · have ew : wcG (hgP tw tx ty n p) (j + 1) = wcG (hgP tw tx ty n p) j + 0 := by
          show wcG (hgP tw tx ty n p) j + (if hgP tw tx ty n p j = true then 1 else 0) = _
          rw [hgP_1 h0, if_neg w]
        exact ⟨2 ^ n - (j + 1), by omega, j + 1, a', b', rfl, by omega, by omega, by rw [ew, ← nI_1 j, ← show f_add (nI (wcG (hgP tw tx ty n p) j)) 0 = nI (wcG (hgP tw tx ty n p) j + 0) from nI_add _ 0] <;> rfl, rfl, rfl⟩
      · have ew : wcG (hgP tw tx ty n p) (j + 1) = wcG (hgP tw tx ty n p) j + 1 := by
          show wcG (hgP tw tx ty n p) j + (if hgP tw tx ty n p j = true then 1 else 0) = _
          rw [hgP_1 h0, if_pos w]
        exact ⟨2 ^ n - (j + 1), by omega, j + 1, a', b', rfl, by omega, by omega, by rw [ew, ← nI_1 j, ← nI_1] <;> rfl, rfl, rfl⟩
set_option maxRecDepth 100000 in
theorem c_X1_fewestToHang {l : Launch} {Crew_acrossSum Crew_alongSum Rep_toldMints Rep_walls : Int32} {Crew_members Rep_mintX Rep_mintY Rep_wall Rep_mintOf Rep_grainsOf : Nat → Int32}  {s tw tx ty : Nat → Nat} {n c p : Nat} (hn1 : 1 ≤ n) (hn : n ≤ 9) (hc : c ≤ 48) (hp : p ≤ 383) (hM : crC c Crew_members Rep_mintOf Rep_grainsOf Rep_mintX Rep_mintY s tw tx ty n) : MetP l 5 yX1_fewestToHang cX1_fewestToHang 4 (some .int) 0 0 [.inr (some (.inl 0)), .inl (nI p)] [.inr (1, [.inr (some (.inl 2)), .inr (some (.inl 1)), .inl ((nI n)), .inl Crew_acrossSum, .inl Crew_alongSum]), .inl (0, 9, Crew_members), .inr (6, [.inr (some (.inl 3)), .inr (some (.inl 4)), .inr (some (.inl 5)), .inr (some (.inl 6)), .inr (some (.inl 7)), .inl Rep_toldMints, .inl Rep_walls, .inl ((nI c))]), .inl (0, 8, Rep_mintX), .inl (0, 8, Rep_mintY), .inl (2, 384, Rep_wall), .inl (0, 48, Rep_mintOf), .inl (0, 48, Rep_grainsOf)] (fun r h' => ∃ a b : Int32, r = some (.inl (fwV (bsG (hgP tw tx ty n p) (2 ^ n)))) ∧ h' = [.inr (1, [.inr (some (.inl 2)), .inr (some (.inl 1)), .inl ((nI n)), .inl a, .inl b]), .inl (0, 9, Crew_members), .inr (6, [.inr (some (.inl 3)), .inr (some (.inl 4)), .inr (some (.inl 5)), .inr (some (.inl 6)), .inr (some (.inl 7)), .inl Rep_toldMints, .inl Rep_walls, .inl ((nI c))]), .inl (0, 8, Rep_mintX), .inl (0, 8, Rep_mintY), .inl (2, 384, Rep_wall), .inl (0, 48, Rep_mintOf), .inl (0, 48, Rep_grainsOf)]) := by
  have pw := pw_le n (by omega)
  have pw2 := (pw_h n (by omega) hn1)
  refine m_X1_fewestToHang (fun μ L st h => ∃ (j : Nat) (a b : Int32), μ = 2 ^ n - j ∧ 1 ≤ j ∧ j ≤ 2 ^ n ∧ L = [some (.inr (some (.inl 0))), some (.inl (nI p)), some (.inl (fwV (bsG (hgP tw tx ty n p) j))), some (.inl (nI j))] ∧ st = [] ∧ h = [.inr (1, [.inr (some (.inl 2)), .inr (some (.inl 1)), .inl ((nI n)), .inl a, .inl b]), .inl (0, 9, Crew_members), .inr (6, [.inr (some (.inl 3)), .inr (some (.inl 4)), .inr (some (.inl 5)), .inr (some (.inl 6)), .inr (some (.inl 7)), .inl Rep_toldMints, .inl Rep_walls, .inl ((nI c))]), .inl (0, 8, Rep_mintX), .inl (0, 8, Rep_mintY), .inl (2, 384, Rep_wall), .inl (0, 48, Rep_mintOf), .inl (0, 48, Rep_grainsOf)]) (Nat.le_of_ble_eq_true rfl) ?_ ?_
  · exact ⟨_, 1, _, _, rfl, by omega, by omega, rfl, rfl, rfl⟩
  · rintro μ L st h ⟨j, a, b, hμ, h0, h1, rfl, rfl, rfl⟩
    refine And.intro (fun (q1 : f_shl 1 (nI n) ≤ nI j) => ?_) (fun (q1 : ¬ f_shl 1 (nI n) ≤ nI j) => ?_) <;> rw [pw_n n (by omega)] at q1
    · have q1 := (nI_leI (by omega) (by omega)).mp q1
      obtain rfl : j = 2 ^ n := by omega
      exact ⟨a, b, rfl, rfl⟩
    · have q1 : j < 2 ^ n := Nat.lt_of_not_le fun z => q1 ((nI_leI (by omega) (by omega)).mpr z)
      refine call0 (c_X1_hangs (s := s) (tw := tw) (tx := tx) (ty := ty) (n := n) (c := c) (p := p) (S := j) hn hc hp hM) rfl rfl ?_
      rintro r h' ⟨a', b', rfl, rfl⟩
      refine br_b (fun w => ?_) (fun w => ?_)
      · have ew : bsG (hgP tw tx ty n p) (j + 1) = bsG (hgP tw tx ty n p) j := if_neg (by rw [hgP_1 h0]; exact w)
        exact ⟨2 ^ n - (j + 1), by omega, j + 1, a', b', rfl, by omega, by omega, by rw [ew, ← nI_1 j] <;> rfl, rfl, rfl⟩
      · have ew : bsG (hgP tw tx ty n p) (j + 1) = some (fewS (bsG (hgP tw tx ty n p) j) j) := if_pos (by rw [hgP_1 h0]; exact w)
        refine call0 (c_X1_fewer (b := bsG (hgP tw tx ty n p) j) (j := j) (by omega) (fun x hx => by have := bsG_lt hx; omega)) rfl rfl ?_
        rintro r h' ⟨rfl, rfl⟩
        exact ⟨2 ^ n - (j + 1), by omega, j + 1, a', b', rfl, by omega, by omega, by rw [ew, ← nI_1 j] <;> rfl, rfl, rfl⟩
def hgV (c T : Nat) (fm fw fx fy o : Nat → Nat) (n p w : Nat) : Int32 := if alW c T fm o n = true then (if w = 0 then nI (wcG (hgP (fun i => fw (o i)) (fun i => fx (fm (o i))) (fun i => fy (fm (o i))) n p) (2 ^ n)) else fwV (bsG (hgP (fun i => fw (o i)) (fun i => fx (fm (o i))) (fun i => fy (fm (o i))) n p) (2 ^ n))) else -3
theorem hgV_t {c T : Nat} {fm fw fx fy o : Nat → Nat} {n p w : Nat} (h : alW c T fm o n = true) : hgV c T fm fw fx fy o n p w = (if w = 0 then nI (wcG (hgP (fun i => fw (o i)) (fun i => fx (fm (o i))) (fun i => fy (fm (o i))) n p) (2 ^ n)) else fwV (bsG (hgP (fun i => fw (o i)) (fun i => fx (fm (o i))) (fun i => fy (fm (o i))) n p) (2 ^ n))) := if_pos h
theorem hgV_f {c T : Nat} {fm fw fx fy o : Nat → Nat} {n p w : Nat} (h : alW c T fm o n = false) : hgV c T fm fw fx fy o n p w = -3 := if_neg (by rw [h]; decide)
theorem crC_of {c T n : Nat} {mb mo gr mx my : Nat → Int32} {fm fw fx fy o : Nat → Nat} (ha : alW c T fm o n = true) (hmb : ∀ i, i < n → mb i = nI (o i)) (hm : ∀ s, s < c → fm s < 8 ∧ fw s ≤ 2 ∧ mo s = nI (fm s) ∧ gr s = nI (fw s)) (hx : ∀ m, m < 8 → T.testBit m = true → fx m ≤ 23 ∧ fy m ≤ 15 ∧ mx m = nI (fx m) ∧ my m = nI (fy m)) : crC c mb mo gr mx my o (fun i => fw (o i)) (fun i => fx (fm (o i))) (fun i => fy (fm (o i))) n := fun i hi => by
  obtain ⟨a1, a2⟩ := alW_i ha hi
  obtain ⟨b1, b2, b3, b4⟩ := hm (o i) a1
  obtain ⟨c1, c2, c3, c4⟩ := hx (fm (o i)) b1 a2
  exact ⟨hmb i hi, a1, fm (o i), b1, b3, b4, c3, c4, c1, c2, b2⟩
theorem crR_of {c T n : Nat} {so mo wh ma : Nat → Int32} {fm fw fx fy o : Nat → Nat} (hc : c ≤ 48) (ha : alW c T fm o n = true) (hso : ∀ i, i < n → so i = nI (o i)) (hm : ∀ s, s < c → fm s < 8 ∧ fw s ≤ 2 ∧ mo s = nI (fm s) ∧ wh s = nI (fw s)) (hx : ∀ m, m < 8 → (T.testBit m = true ∧ fx m ≤ 23 ∧ fy m ≤ 15 ∧ ma m = nI (24 * fy m + fx m)) ∨ (T.testBit m = false ∧ ma m = -1)) : crR so mo wh ma o (fun i => fw (o i)) (fun i => fx (fm (o i))) (fun i => fy (fm (o i))) n := fun i hi => by
  obtain ⟨a1, a2⟩ := alW_i ha hi
  obtain ⟨b1, b2, b3, b4⟩ := hm (o i) a1
  rcases hx (fm (o i)) b1 with ⟨_, c1, c2, c3⟩ | ⟨z, _⟩
  · exact ⟨hso i hi, by omega, fm (o i), b1, b3, b4, c3, c1, c2, b2⟩
  · rw [a2] at z
    cases z
set_option maxRecDepth 100000 in
theorem c_X11_hang {l : Launch} {HS_now HS_kept HS_trial HS_clerk HS_riddles HS_sheetReader HS_postReader HS_lawReader HS_seen HS_rules HS_spareRules : List (Option Nat)} {HS_wasKept Crew_size Crew_acrossSum Crew_alongSum Rep_walls : Int32} {Tape_bytes Crew_members Rep_mintX Rep_mintY Rep_wall Rep_mintOf Rep_grainsOf : Nat → Int32}  {o fm fw fx fy : Nat → Nat} {n p w t c T : Nat} (hn1 : 1 ≤ n) (hn : n ≤ 9) (hp : p ≤ 383) (hw : w ≤ 1) (ht : t ≤ 260) (hnt : n ≤ t) (hc : c ≤ 48) (hm : ∀ s, s < c → fm s < 8 ∧ fw s ≤ 2 ∧ Rep_mintOf s = nI (fm s) ∧ Rep_grainsOf s = nI (fw s)) (hx : ∀ m, m < 8 → T.testBit m = true → fx m ≤ 23 ∧ fy m ≤ 15 ∧ Rep_mintX m = nI (fx m) ∧ Rep_mintY m = nI (fy m)) (hb : ∀ i, i < n → o i ≤ 255 ∧ Tape_bytes i = nI (o i)) : MetP l 6 yX11_hang cX11_hang 4 (some .int) 0 0 [.inr (some (.inl 0)), .inl (nI n), .inl (nI p), .inl (nI w)] [.inr (10, [.inr (some (.inl 1)), .inr (some (.inl 5)), .inr (some (.inr HS_now)), .inr (some (.inr HS_kept)), .inr (some (.inr HS_trial)), .inr (some (.inr HS_clerk)), .inr (some (.inl 3)), .inr (some (.inr HS_riddles)), .inr (some (.inr HS_sheetReader)), .inr (some (.inr HS_postReader)), .inr (some (.inr HS_lawReader)), .inr (some (.inr HS_seen)), .inr (some (.inr HS_rules)), .inr (some (.inr HS_spareRules)), .inl HS_wasKept]), .inr (9, [.inr (some (.inl 2)), .inl ((nI t))]), .inl (0, 260, Tape_bytes), .inr (1, [.inr (some (.inl 5)), .inr (some (.inl 4)), .inl Crew_size, .inl Crew_acrossSum, .inl Crew_alongSum]), .inl (0, 9, Crew_members), .inr (6, [.inr (some (.inl 6)), .inr (some (.inl 7)), .inr (some (.inl 8)), .inr (some (.inl 9)), .inr (some (.inl 10)), .inl ((nI T)), .inl Rep_walls, .inl ((nI c))]), .inl (0, 8, Rep_mintX), .inl (0, 8, Rep_mintY), .inl (2, 384, Rep_wall), .inl (0, 48, Rep_mintOf), .inl (0, 48, Rep_grainsOf)] (fun r h' => ∃ (k : Nat) (mb : Nat → Int32) (a b : Int32), k ≤ 9 ∧ r = some (.inl (hgV c T fm fw fx fy o n p w)) ∧ h' = [.inr (10, [.inr (some (.inl 1)), .inr (some (.inl 5)), .inr (some (.inr HS_now)), .inr (some (.inr HS_kept)), .inr (some (.inr HS_trial)), .inr (some (.inr HS_clerk)), .inr (some (.inl 3)), .inr (some (.inr HS_riddles)), .inr (some (.inr HS_sheetReader)), .inr (some (.inr HS_postReader)), .inr (some (.inr HS_lawReader)), .inr (some (.inr HS_seen)), .inr (some (.inr HS_rules)), .inr (some (.inr HS_spareRules)), .inl HS_wasKept]), .inr (9, [.inr (some (.inl 2)), .inl 0]), .inl (0, 260, Tape_bytes), .inr (1, [.inr (some (.inl 5)), .inr (some (.inl 4)), .inl ((nI k)), .inl a, .inl b]), .inl (0, 9, mb), .inr (6, [.inr (some (.inl 6)), .inr (some (.inl 7)), .inr (some (.inl 8)), .inr (some (.inl 9)), .inr (some (.inl 10)), .inl ((nI T)), .inl Rep_walls, .inl ((nI c))]), .inl (0, 8, Rep_mintX), .inl (0, 8, Rep_mintY), .inl (2, 384, Rep_wall), .inl (0, 48, Rep_mintOf), .inl (0, 48, Rep_grainsOf)]) := by
  refine m_X11_hang (Nat.le_of_ble_eq_true rfl) ?_
  refine call0 (c_isPlace) rfl rfl ?_
  rintro r h' ⟨rfl, rfl⟩
  refine br_b (fun z => absurd ((nI_bt (a := 0) (b := 383) (by omega) (by omega) (by omega)).mpr ⟨by omega, hp⟩) z) (fun _ => ?_)
  refine call0 (c_within) rfl rfl ?_
  rintro r h' ⟨rfl, rfl⟩
  refine br_b (fun z => absurd ((nI_bt (a := 0) (b := 1) (by omega) (by omega) (by omega)).mpr ⟨by omega, hw⟩) z) (fun _ => ?_)
  refine call0 (c_canGive) rfl rfl ?_
  rintro r h' ⟨rfl, rfl⟩
  refine br_b (fun z => absurd ⟨(nI_bt (a := 1) (b := 9) (by omega) (by omega) (by omega)).mpr ⟨hn1, hn⟩, (nI_leI (by omega) (by omega)).mpr hnt⟩ z) (fun _ => ?_)
  refine call0 (c_X11_gatherCrew (o := o) (fm := fm) (n := n) (t := t) (c := c) (T := T) hn ht hnt hc (fun s hs => ⟨(hm s hs).1, (hm s hs).2.2.1⟩) hb) rfl rfl ?_
  rintro r h' ⟨k, mb, k9, hq, rfl⟩
  rcases hq with ⟨rfl, hf⟩ | ⟨rfl, hy, rfl, hmb⟩
  · refine And.intro (fun _ => ?_) (fun z => absurd rfl z)
    exact ⟨k, mb, _, _, k9, by rw [hgV_f hf], rfl⟩
  · have hM := crC_of hy hmb hm hx
    refine And.intro (fun z => absurd z (by show ¬ ((_ : Int32) = _); decide)) (fun _ => ?_)
    rcases (by omega : w = 0 ∨ w = 1) with rfl | rfl
    · refine And.intro (fun _ => ?_) (fun z => absurd rfl z)
      refine call0 (c_X1_waysToHang (n := k) (c := c) (p := p) hn1 hn hc hp hM) rfl rfl ?_
      rintro r h' ⟨a', b', rfl, rfl⟩
      exact ⟨k, mb, a', b', k9, by rw [hgV_t hy, if_pos rfl], rfl⟩
    · refine And.intro (fun z => absurd z (by show ¬ ((_ : Int32) = _); decide)) (fun _ => ?_)
      refine call0 (c_X1_fewestToHang (n := k) (c := c) (p := p) hn1 hn hc hp hM) rfl rfl ?_
      rintro r h' ⟨a', b', rfl, rfl⟩
      exact ⟨k, mb, a', b', k9, by rw [hgV_t hy, if_neg (by decide)], rfl⟩
set_option maxRecDepth 100000 in
theorem c_X12_hang {l : Launch} {M_now M_aside M_kept M_isWall M_wasWall M_said M_waitsAt M_saidLetter M_saidFrom M_saidHalf M_saidTo M_codes M_clauseOf M_codeFrom M_codeHalf M_codeTo M_stack M_facts M_newStamps M_roundFrom M_roundAt M_roundTimes M_usesNow M_wasAt M_fewestFor M_getsOf : List (Option Nat)} {M_place0 M_length0 M_fault M_number0 M_open M_codeMany M_waiting M_saidMany M_clauses M_newMany M_rounds M_stampFrom M_stampTimes M_lines M_spot0 M_pullAcross M_pullAlong M_stepsNow M_fallenNow M_isKept : Int32} {M_mintAt M_mintOf M_wholeOf M_tape M_someOf : Nat → Int32}  {o fm fw fx fy : Nat → Nat} {n p w t c T : Nat} (hn1 : 1 ≤ n) (hn : n ≤ 9) (hp : p ≤ 383) (hw : w ≤ 1) (ht : t ≤ 260) (hnt : n ≤ t) (hc : c ≤ 48) (hm : ∀ s, s < c → fm s < 8 ∧ fw s ≤ 2 ∧ M_mintOf s = nI (fm s) ∧ M_wholeOf s = nI (fw s)) (hx : ∀ m, m < 8 → (T.testBit m = true ∧ fx m ≤ 23 ∧ fy m ≤ 15 ∧ M_mintAt m = nI (24 * fy m + fx m)) ∨ (T.testBit m = false ∧ M_mintAt m = -1)) (hS : ∀ i, i < 9 → 0 ≤ (M_someOf i).toInt ∧ (M_someOf i).toInt ≤ 47) (hb : ∀ i, i < n → o i ≤ 255 ∧ f_and (M_tape i) 255 = nI (o i)) : MetP l 3 yX12_hang cX12_hang 7 (some .int) 0 0 [.inr (some (.inl 0)), .inl (nI n), .inl (nI p), .inl (nI w)] [.inr (11, [.inr (some (.inr M_now)), .inr (some (.inr M_aside)), .inr (some (.inr M_kept)), .inr (some (.inl 1)), .inr (some (.inl 2)), .inr (some (.inl 3)), .inr (some (.inr M_isWall)), .inr (some (.inr M_wasWall)), .inl ((nI c)), .inr (some (.inl 4)), .inl ((nI t)), .inl M_place0, .inl M_length0, .inl M_fault, .inl M_number0, .inl M_open, .inl M_codeMany, .inl M_waiting, .inl M_saidMany, .inl M_clauses, .inr (some (.inr M_said)), .inr (some (.inr M_waitsAt)), .inr (some (.inr M_saidLetter)), .inr (some (.inr M_saidFrom)), .inr (some (.inr M_saidHalf)), .inr (some (.inr M_saidTo)), .inr (some (.inr M_codes)), .inr (some (.inr M_clauseOf)), .inr (some (.inr M_codeFrom)), .inr (some (.inr M_codeHalf)), .inr (some (.inr M_codeTo)), .inr (some (.inr M_stack)), .inr (some (.inr M_facts)), .inr (some (.inr M_newStamps)), .inr (some (.inr M_roundFrom)), .inr (some (.inr M_roundAt)), .inr (some (.inr M_roundTimes)), .inl M_newMany, .inl M_rounds, .inl M_stampFrom, .inl M_stampTimes, .inl M_lines, .inl M_spot0, .inl M_pullAcross, .inl M_pullAlong, .inl M_stepsNow, .inl M_fallenNow, .inr (some (.inr M_usesNow)), .inr (some (.inr M_wasAt)), .inr (some (.inl 5)), .inr (some (.inr M_fewestFor)), .inr (some (.inr M_getsOf)), .inl M_isKept]), .inl (0, 8, M_mintAt), .inl (0, 48, M_mintOf), .inl (0, 48, M_wholeOf), .inl (1, 260, M_tape), .inl (0, 9, M_someOf)] (fun r h' => ∃ so : Nat → Int32, (∀ i, i < 9 → 0 ≤ (so i).toInt ∧ (so i).toInt ≤ 47) ∧ r = some (.inl (hgV c T fm fw fx fy o n p w)) ∧ h' = [.inr (11, [.inr (some (.inr M_now)), .inr (some (.inr M_aside)), .inr (some (.inr M_kept)), .inr (some (.inl 1)), .inr (some (.inl 2)), .inr (some (.inl 3)), .inr (some (.inr M_isWall)), .inr (some (.inr M_wasWall)), .inl ((nI c)), .inr (some (.inl 4)), .inl 0, .inl M_place0, .inl M_length0, .inl M_fault, .inl M_number0, .inl M_open, .inl M_codeMany, .inl M_waiting, .inl M_saidMany, .inl M_clauses, .inr (some (.inr M_said)), .inr (some (.inr M_waitsAt)), .inr (some (.inr M_saidLetter)), .inr (some (.inr M_saidFrom)), .inr (some (.inr M_saidHalf)), .inr (some (.inr M_saidTo)), .inr (some (.inr M_codes)), .inr (some (.inr M_clauseOf)), .inr (some (.inr M_codeFrom)), .inr (some (.inr M_codeHalf)), .inr (some (.inr M_codeTo)), .inr (some (.inr M_stack)), .inr (some (.inr M_facts)), .inr (some (.inr M_newStamps)), .inr (some (.inr M_roundFrom)), .inr (some (.inr M_roundAt)), .inr (some (.inr M_roundTimes)), .inl M_newMany, .inl M_rounds, .inl M_stampFrom, .inl M_stampTimes, .inl M_lines, .inl M_spot0, .inl M_pullAcross, .inl M_pullAlong, .inl M_stepsNow, .inl M_fallenNow, .inr (some (.inr M_usesNow)), .inr (some (.inr M_wasAt)), .inr (some (.inl 5)), .inr (some (.inr M_fewestFor)), .inr (some (.inr M_getsOf)), .inl M_isKept]), .inl (0, 8, M_mintAt), .inl (0, 48, M_mintOf), .inl (0, 48, M_wholeOf), .inl (1, 260, M_tape), .inl (0, 9, so)]) := by
  have pw := pw_le n (by omega)
  have pw2 := (pw_h n (by omega) hn1)
  obtain ⟨P, eP⟩ : ∃ P, P = hgP (fun i => fw (o i)) (fun i => fx (fm (o i))) (fun i => fy (fm (o i))) n p := ⟨_, rfl⟩
  refine m_X12_hang (fun μ L st h => ∃ (j : Nat) (so : Nat → Int32), μ = 2 ^ n - j ∧ 1 ≤ j ∧ j ≤ 2 ^ n ∧ alW c T fm o n = true ∧ (∀ i, i < 9 → 0 ≤ (so i).toInt ∧ (so i).toInt ≤ 47) ∧ (∀ i, i < n → so i = nI (o i)) ∧ L = [some (.inr (some (.inl 0))), some (.inl (nI n)), some (.inl (nI p)), some (.inl (nI w)), some (.inl (nI (wcG P j))), some (.inl (fwV (bsG P j))), some (.inl (nI j))] ∧ st = [] ∧ h = [.inr (11, [.inr (some (.inr M_now)), .inr (some (.inr M_aside)), .inr (some (.inr M_kept)), .inr (some (.inl 1)), .inr (some (.inl 2)), .inr (some (.inl 3)), .inr (some (.inr M_isWall)), .inr (some (.inr M_wasWall)), .inl ((nI c)), .inr (some (.inl 4)), .inl 0, .inl M_place0, .inl M_length0, .inl M_fault, .inl M_number0, .inl M_open, .inl M_codeMany, .inl M_waiting, .inl M_saidMany, .inl M_clauses, .inr (some (.inr M_said)), .inr (some (.inr M_waitsAt)), .inr (some (.inr M_saidLetter)), .inr (some (.inr M_saidFrom)), .inr (some (.inr M_saidHalf)), .inr (some (.inr M_saidTo)), .inr (some (.inr M_codes)), .inr (some (.inr M_clauseOf)), .inr (some (.inr M_codeFrom)), .inr (some (.inr M_codeHalf)), .inr (some (.inr M_codeTo)), .inr (some (.inr M_stack)), .inr (some (.inr M_facts)), .inr (some (.inr M_newStamps)), .inr (some (.inr M_roundFrom)), .inr (some (.inr M_roundAt)), .inr (some (.inr M_roundTimes)), .inl M_newMany, .inl M_rounds, .inl M_stampFrom, .inl M_stampTimes, .inl M_lines, .inl M_spot0, .inl M_pullAcross, .inl M_pullAlong, .inl M_stepsNow, .inl M_fallenNow, .inr (some (.inr M_usesNow)), .inr (some (.inr M_wasAt)), .inr (some (.inl 5)), .inr (some (.inr M_fewestFor)), .inr (some (.inr M_getsOf)), .inl M_isKept]), .inl (0, 8, M_mintAt), .inl (0, 48, M_mintOf), .inl (0, 48, M_wholeOf), .inl (1, 260, M_tape), .inl (0, 9, so)]) (Nat.le_of_ble_eq_true rfl) ?_ ?_
  · refine call0 (c_in) rfl rfl ?_
    rintro r h' ⟨rfl, rfl⟩
    refine br_b (fun z => absurd ((nI_bt (a := 1) (b := 9) (by omega) (by omega) (by omega)).mpr ⟨hn1, hn⟩) z) (fun _ => ?_)
    refine call0 (c_misPlace) rfl rfl ?_
    rintro r h' ⟨rfl, rfl⟩
    refine br_b (fun z => absurd ((nI_bt (a := 0) (b := 383) (by omega) (by omega) (by omega)).mpr ⟨by omega, hp⟩) z) (fun _ => ?_)
    refine call0 (c_in) rfl rfl ?_
    rintro r h' ⟨rfl, rfl⟩
    refine br_b (fun z => absurd ((nI_bt (a := 0) (b := 1) (by omega) (by omega) (by omega)).mpr ⟨by omega, hw⟩) z) (fun _ => ?_)
    refine And.intro (fun _ => ?_) (fun z => absurd ((nI_leI (by omega) (by omega)).mpr hnt) z)
    refine call0 (e_X12_takesStamps (o := o) (fm := fm) (n := n) (c := c) (T := T) hn hc (fun s hs => ⟨(hm s hs).1, (hm s hs).2.2.1⟩) (fun m hm' => (hx m hm').imp (fun z => ⟨z.1, _, by omega, z.2.2.2⟩) (fun z => z)) hS hb) rfl rfl ?_
    rintro r h' ⟨so, hso, hq, rfl⟩
    rcases hq with ⟨rfl, hf⟩ | ⟨rfl, hy, hmb⟩
    · refine And.intro (fun _ => ?_) (fun z => absurd rfl z)
      exact ⟨so, hso, by rw [hgV_f hf], rfl⟩
    · refine And.intro (fun z => absurd z (by show ¬ ((_ : Int32) = _); decide)) (fun _ => ?_)
      have p0 : P 0 = false := by rw [eP]; rfl
      have w1 : wcG P 1 = 0 := by show 0 + (if P 0 = true then 1 else 0) = 0; rw [p0, if_neg (by decide)]
      have b1 : bsG P 1 = none := by show (if P 0 = true then _ else none) = none; rw [p0, if_neg (by decide)]
      exact ⟨_, 1, so, rfl, by omega, by omega, hy, hso, hmb, by rw [w1, b1]; rfl, rfl, rfl⟩
  · rintro μ L st h ⟨j, so, hμ, h0, h1, hy, hso, hmb, rfl, rfl, rfl⟩
    refine And.intro (fun (q1 : f_shl 1 (nI n) ≤ nI j) => ?_) (fun (q1 : ¬ f_shl 1 (nI n) ≤ nI j) => ?_) <;> rw [pw_n n (by omega)] at q1
    · have q1 := (nI_leI (by omega) (by omega)).mp q1
      obtain rfl : j = 2 ^ n := by omega
      rcases (by omega : w = 0 ∨ w = 1) with rfl | rfl
      · refine And.intro (fun _ => ?_) (fun z => absurd rfl z)
        exact ⟨so, hso, by rw [hgV_t hy, if_pos rfl, eP], rfl⟩
      · refine And.intro (fun z => absurd z (by show ¬ ((_ : Int32) = _); decide)) (fun _ => ?_)
        exact ⟨so, hso, by rw [hgV_t hy, if_neg (by decide), eP], rfl⟩
    · have q1 : j < 2 ^ n := Nat.lt_of_not_le fun z => q1 ((nI_leI (by omega) (by omega)).mpr z)
      have hM := crR_of hc hy hmb hm hx
      have hP : P j = hgB (fun i => fw (o i)) (fun i => fx (fm (o i))) (fun i => fy (fm (o i))) n p j := by rw [eP]; exact hgP_1 h0
      have wl := wcG_le (P := P) j
      have no : ¬ P j = true → ∃ μ', μ' < μ ∧ ∃ (j' : Nat) (so' : Nat → Int32), μ' = 2 ^ n - j' ∧ 1 ≤ j' ∧ j' ≤ 2 ^ n ∧ alW c T fm o n = true ∧ (∀ i, i < 9 → 0 ≤ (so' i).toInt ∧ (so' i).toInt ≤ 47) ∧ (∀ i, i < n → so' i = nI (o i)) ∧ ([some (.inr (some (.inl 0))), some (.inl (nI n)), some (.inl (nI p)), some (.inl (nI w)), some (.inl (nI (wcG P j))), some (.inl (fwV (bsG P j))), some (.inl (f_add (nI j) 1))] : PL) = [some (.inr (some (.inl 0))), some (.inl (nI n)), some (.inl (nI p)), some (.inl (nI w)), some (.inl (nI (wcG P j'))), some (.inl (fwV (bsG P j'))), some (.inl (nI j'))] ∧ ([] : List PV) = [] ∧ ([.inr (11, [.inr (some (.inr M_now)), .inr (some (.inr M_aside)), .inr (some (.inr M_kept)), .inr (some (.inl 1)), .inr (some (.inl 2)), .inr (some (.inl 3)), .inr (some (.inr M_isWall)), .inr (some (.inr M_wasWall)), .inl ((nI c)), .inr (some (.inl 4)), .inl 0, .inl M_place0, .inl M_length0, .inl M_fault, .inl M_number0, .inl M_open, .inl M_codeMany, .inl M_waiting, .inl M_saidMany, .inl M_clauses, .inr (some (.inr M_said)), .inr (some (.inr M_waitsAt)), .inr (some (.inr M_saidLetter)), .inr (some (.inr M_saidFrom)), .inr (some (.inr M_saidHalf)), .inr (some (.inr M_saidTo)), .inr (some (.inr M_codes)), .inr (some (.inr M_clauseOf)), .inr (some (.inr M_codeFrom)), .inr (some (.inr M_codeHalf)), .inr (some (.inr M_codeTo)), .inr (some (.inr M_stack)), .inr (some (.inr M_facts)), .inr (some (.inr M_newStamps)), .inr (some (.inr M_roundFrom)), .inr (some (.inr M_roundAt)), .inr (some (.inr M_roundTimes)), .inl M_newMany, .inl M_rounds, .inl M_stampFrom, .inl M_stampTimes, .inl M_lines, .inl M_spot0, .inl M_pullAcross, .inl M_pullAlong, .inl M_stepsNow, .inl M_fallenNow, .inr (some (.inr M_usesNow)), .inr (some (.inr M_wasAt)), .inr (some (.inl 5)), .inr (some (.inr M_fewestFor)), .inr (some (.inr M_getsOf)), .inl M_isKept]), .inl (0, 8, M_mintAt), .inl (0, 48, M_mintOf), .inl (0, 48, M_wholeOf), .inl (1, 260, M_tape), .inl (0, 9, so)] : PH) = [.inr (11, [.inr (some (.inr M_now)), .inr (some (.inr M_aside)), .inr (some (.inr M_kept)), .inr (some (.inl 1)), .inr (some (.inl 2)), .inr (some (.inl 3)), .inr (some (.inr M_isWall)), .inr (some (.inr M_wasWall)), .inl ((nI c)), .inr (some (.inl 4)), .inl 0, .inl M_place0, .inl M_length0, .inl M_fault, .inl M_number0, .inl M_open, .inl M_codeMany, .inl M_waiting, .inl M_saidMany, .inl M_clauses, .inr (some (.inr M_said)), .inr (some (.inr M_waitsAt)), .inr (some (.inr M_saidLetter)), .inr (some (.inr M_saidFrom)), .inr (some (.inr M_saidHalf)), .inr (some (.inr M_saidTo)), .inr (some (.inr M_codes)), .inr (some (.inr M_clauseOf)), .inr (some (.inr M_codeFrom)), .inr (some (.inr M_codeHalf)), .inr (some (.inr M_codeTo)), .inr (some (.inr M_stack)), .inr (some (.inr M_facts)), .inr (some (.inr M_newStamps)), .inr (some (.inr M_roundFrom)), .inr (some (.inr M_roundAt)), .inr (some (.inr M_roundTimes)), .inl M_newMany, .inl M_rounds, .inl M_stampFrom, .inl M_stampTimes, .inl M_lines, .inl M_spot0, .inl M_pullAcross, .inl M_pullAlong, .inl M_stepsNow, .inl M_fallenNow, .inr (some (.inr M_usesNow)), .inr (some (.inr M_wasAt)), .inr (some (.inl 5)), .inr (some (.inr M_fewestFor)), .inr (some (.inr M_getsOf)), .inl M_isKept]), .inl (0, 8, M_mintAt), .inl (0, 48, M_mintOf), .inl (0, 48, M_wholeOf), .inl (1, 260, M_tape), .inl (0, 9, so')] := fun z => by
        have e1 : wcG P (j + 1) = wcG P j + 0 := by
          show wcG P j + (if P j = true then 1 else 0) = _
          rw [if_neg z]
        have e2 : bsG P (j + 1) = bsG P j := if_neg z
        exact ⟨2 ^ n - (j + 1), by omega, j + 1, so, rfl, by omega, by omega, hy, hso, hmb, by rw [e1, e2, ← nI_1 j] <;> rfl, rfl, rfl⟩
      refine call0 (e_X12_pullA (B := j.testBit) (n := n) (p := p) hn hp (fun i hi => hasB_n (by omega)) hM) rfl rfl ?_
      rintro r h' ⟨rfl, rfl⟩
      refine And.intro (fun (u : plB (tA (fun i => fw (o i)) (fun i => fx (fm (o i))) p) j.testBit n = 0) => ?_) (fun (u : ¬ plB (tA (fun i => fw (o i)) (fun i => fx (fm (o i))) p) j.testBit n = 0) => ?_)
      · refine call0 (e_X12_pullL (B := j.testBit) (n := n) (p := p) hn hp (fun i hi => hasB_n (by omega)) hM) rfl rfl ?_
        rintro r h' ⟨rfl, rfl⟩
        refine And.intro (fun (v : plB (tL (fun i => fw (o i)) (fun i => fy (fm (o i))) p) j.testBit n = 0) => ?_) (fun (v : ¬ plB (tL (fun i => fw (o i)) (fun i => fy (fm (o i))) p) j.testBit n = 0) => ?_)
        · have py : P j = true := by rw [hP]; exact hgB_t.mpr ⟨u, v⟩
          have e1 : wcG P (j + 1) = wcG P j + 1 := by
            show wcG P j + (if P j = true then 1 else 0) = _
            rw [if_pos py]
          have e2 : bsG P (j + 1) = some (fewS (bsG P j) j) := if_pos py
          refine call0 (e_X12_isLess (b := bsG P j) (j := j) (fun x hx => by have := bsG_lt hx; omega)) rfl rfl ?_
          rintro r h' ⟨rfl, rfl⟩
          refine br_b (fun w' => ?_) (fun w' => ?_)
          · exact ⟨2 ^ n - (j + 1), by omega, j + 1, so, rfl, by omega, by omega, hy, hso, hmb, by rw [e1, e2, fw_f w', ← nI_1 j, ← nI_1] <;> rfl, rfl, rfl⟩
          · exact ⟨2 ^ n - (j + 1), by omega, j + 1, so, rfl, by omega, by omega, hy, hso, hmb, by rw [e1, e2, fw_t w', ← nI_1 j, ← nI_1] <;> rfl, rfl, rfl⟩
        · exact no (by rw [hP]; exact fun z => v (hgB_t.mp z).2)
      · exact no (by rw [hP]; exact fun z => u (hgB_t.mp z).1)

