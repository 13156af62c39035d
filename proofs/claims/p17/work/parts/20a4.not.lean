def hc_799d656d53 : List AC := [.inr (10, [.inr (.inr (some (.inl 1))), .inr (.inr (some (.inl 5))), .inr (.inr (some (.inr 0))), .inr (.inr (some (.inr 1))), .inr (.inr (some (.inr 2))), .inr (.inr (some (.inr 3))), .inr (.inr (some (.inl 3))), .inr (.inr (some (.inr 4))), .inr (.inr (some (.inr 5))), .inr (.inr (some (.inr 6))), .inr (.inr (some (.inr 7))), .inr (.inr (some (.inr 8))), .inr (.inr (some (.inr 9))), .inr (.inr (some (.inr 10))), .inr (.inr (some (.inr 201)))]), .inr (9, [.inr (.inr (some (.inl 2))), .inr (.inr (some (.inr 202)))]), .inl (1000, 260, 0, 255), .inr (1, [.inr (.inr (some (.inl 5))), .inr (.inr (some (.inl 4))), .inl (0, 9), .inl (-2147483648, 2147483647), .inl (-2147483648, 2147483647)]), .inl (0, 9, -2147483648, 2147483647), .inr (6, [.inr (.inr (some (.inl 6))), .inr (.inr (some (.inl 7))), .inr (.inr (some (.inl 8))), .inr (.inr (some (.inl 9))), .inr (.inr (some (.inl 10))), .inr (.inr (some (.inr 203))), .inl (-2147483648, 2147483647), .inr (.inr (some (.inr 204)))]), .inl (1008, 8, -2147483648, 2147483647), .inl (1012, 8, -2147483648, 2147483647), .inl (1054, 384, 0, 1), .inl (1020, 48, -2147483648, 2147483647), .inl (1024, 48, -2147483648, 2147483647)]
def hc_0146973389 : List AC := [.inr (11, [.inr (.inr (some (.inr 0))), .inr (.inr (some (.inr 1))), .inr (.inr (some (.inr 2))), .inr (.inr (some (.inl 1))), .inr (.inr (some (.inl 2))), .inr (.inr (some (.inl 3))), .inr (.inr (some (.inr 3))), .inr (.inr (some (.inr 4))), .inr (.inr (some (.inr 205))), .inr (.inr (some (.inl 4))), .inr (.inr (some (.inr 202))), .inl (0, 240), .inl (0, 240), .inl (-2147483648, 2147483647), .inl (-2147483648, 2147483647), .inl (-2147483648, 2147483647), .inl (0, 260), .inl (0, 260), .inl (0, 16), .inr (.inr (some (.inr 200))), .inr (.inr (some (.inr 5))), .inr (.inr (some (.inr 6))), .inr (.inr (some (.inr 7))), .inr (.inr (some (.inr 8))), .inr (.inr (some (.inr 9))), .inr (.inr (some (.inr 10))), .inr (.inr (some (.inr 11))), .inr (.inr (some (.inr 12))), .inr (.inr (some (.inr 13))), .inr (.inr (some (.inr 14))), .inr (.inr (some (.inr 15))), .inr (.inr (some (.inr 16))), .inr (.inr (some (.inr 17))), .inr (.inr (some (.inr 18))), .inr (.inr (some (.inr 19))), .inr (.inr (some (.inr 20))), .inr (.inr (some (.inr 21))), .inl (-2147483648, 2147483647), .inl (-2147483648, 2147483647), .inl (-2147483648, 2147483647), .inl (-2147483648, 2147483647), .inl (-2147483648, 2147483647), .inl (-2147483648, 2147483647), .inl (-2147483648, 2147483647), .inl (-2147483648, 2147483647), .inl (-2147483648, 2147483647), .inl (-2147483648, 2147483647), .inr (.inr (some (.inr 22))), .inr (.inr (some (.inr 23))), .inr (.inr (some (.inl 5))), .inr (.inr (some (.inr 24))), .inr (.inr (some (.inr 25))), .inr (.inr (some (.inr 201)))]), .inl (1016, 8, -1, 383), .inl (1028, 48, 0, 7), .inl (1032, 48, 0, 2), .inl (1005, 260, -128, 127), .inl (0, 9, 0, 47)]
def hc_69ffd711c1 : List AC := [.inr (10, [.inr (.inr (some (.inl 1))), .inr (.inr (some (.inr 0))), .inr (.inr (some (.inr 1))), .inr (.inr (some (.inr 2))), .inr (.inr (some (.inr 3))), .inr (.inr (some (.inr 4))), .inr (.inr (some (.inr 5))), .inr (.inr (some (.inl 3))), .inr (.inr (some (.inr 6))), .inr (.inr (some (.inr 7))), .inr (.inr (some (.inr 8))), .inr (.inr (some (.inr 9))), .inr (.inr (some (.inr 10))), .inr (.inr (some (.inr 11))), .inr (.inr (some (.inr 201)))]), .inr (9, [.inr (.inr (some (.inl 2))), .inr (.inr (some (.inr 202)))]), .inl (1000, 260, 0, 255), .inr (7, [.inr (.inr (some (.inl 1))), .inr (.inr (some (.inl 4))), .inr (.inr (some (.inl 5))), .inl (-2147483648, 2147483647), .inl (-2147483648, 2147483647)]), .inl (700, 601, 0, 0), .inl (0, 6, -2147483648, 2147483647)]
def hc_b1dc8a85ac : List AC := [.inr (11, [.inr (.inr (some (.inr 0))), .inr (.inr (some (.inr 1))), .inr (.inr (some (.inr 2))), .inr (.inr (some (.inr 3))), .inr (.inr (some (.inr 4))), .inr (.inr (some (.inr 5))), .inr (.inr (some (.inr 6))), .inr (.inr (some (.inr 7))), .inr (.inr (some (.inr 205))), .inr (.inr (some (.inl 1))), .inr (.inr (some (.inr 202))), .inl (0, 240), .inl (0, 240), .inl (-2147483648, 2147483647), .inl (-2147483648, 2147483647), .inl (-2147483648, 2147483647), .inl (0, 260), .inl (0, 260), .inl (0, 16), .inr (.inr (some (.inr 200))), .inr (.inr (some (.inr 8))), .inr (.inr (some (.inr 9))), .inr (.inr (some (.inr 10))), .inr (.inr (some (.inr 11))), .inr (.inr (some (.inr 12))), .inr (.inr (some (.inr 13))), .inr (.inr (some (.inr 14))), .inr (.inr (some (.inr 15))), .inr (.inr (some (.inr 16))), .inr (.inr (some (.inr 17))), .inr (.inr (some (.inr 18))), .inr (.inr (some (.inr 19))), .inr (.inr (some (.inr 20))), .inr (.inr (some (.inr 21))), .inr (.inr (some (.inr 22))), .inr (.inr (some (.inr 23))), .inr (.inr (some (.inr 24))), .inl (-2147483648, 2147483647), .inl (-2147483648, 2147483647), .inl (-2147483648, 2147483647), .inl (-2147483648, 2147483647), .inl (-2147483648, 2147483647), .inl (-2147483648, 2147483647), .inl (-2147483648, 2147483647), .inl (-2147483648, 2147483647), .inl (-2147483648, 2147483647), .inl (-2147483648, 2147483647), .inr (.inr (some (.inr 25))), .inr (.inr (some (.inr 26))), .inr (.inr (some (.inr 27))), .inr (.inr (some (.inl 2))), .inr (.inr (some (.inr 28))), .inr (.inr (some (.inr 201)))]), .inl (1005, 260, -128, 127), .inl (0, 601, -2147483648, 2147483647)]
/-! ===== calls that take nothing ===== -/
def nd_law (a s : Int32) : Prop := (1 ≤ a ∧ a ≤ 240) ∧ a ≤ s
set_option maxRecDepth 100000 in
theorem c_nlawCS {l : Launch} {HS_republic HS_now HS_kept HS_trial HS_clerk HS_crew HS_riddles HS_sheetReader HS_postReader HS_seen HS_rules : List (Option Nat)} {HS_wasKept Tape_size LR_end LR_at LR_ahead LR_fault Spare_rules Spare_steps Spare_waiting Spare_refused : Int32} {Tape_bytes Spare_kind Spare_worthAt Spare_testAt Spare_step Spare_beside Spare_stack : Nat → Int32}  {a : Int32} (hN : ¬ nd_law a Tape_size) : MetP l 103 yX11_law cX11_law 4 (some .int) 0 0 [.inr (some (.inl 0)), .inl a] [.inr (10, [.inr (some (.inl 1)), .inr (some (.inr HS_republic)), .inr (some (.inr HS_now)), .inr (some (.inr HS_kept)), .inr (some (.inr HS_trial)), .inr (some (.inr HS_clerk)), .inr (some (.inr HS_crew)), .inr (some (.inr HS_riddles)), .inr (some (.inr HS_sheetReader)), .inr (some (.inr HS_postReader)), .inr (some (.inl 3)), .inr (some (.inr HS_seen)), .inr (some (.inr HS_rules)), .inr (some (.inl 4)), .inl HS_wasKept]), .inr (9, [.inr (some (.inl 2)), .inl Tape_size]), .inl (0, 260, Tape_bytes), .inr (3, [.inr (some (.inl 2)), .inl LR_end, .inl LR_at, .inl LR_ahead, .inl LR_fault, (.inr (some (.inl 4)))]), .inr (2, [.inr (some (.inl 5)), .inr (some (.inl 6)), .inr (some (.inl 7)), .inr (some (.inl 8)), .inr (some (.inl 9)), .inr (some (.inl 10)), .inl Spare_rules, .inl Spare_steps, .inl Spare_waiting, .inl Spare_refused]), .inl (0, 16, Spare_kind), .inl (0, 16, Spare_worthAt), .inl (0, 16, Spare_testAt), .inl (0, 280, Spare_step), .inl (0, 280, Spare_beside), .inl (0, 24, Spare_stack)] (fun r h' => r = some (.inl (-1)) ∧ h' = [.inr (10, [.inr (some (.inl 1)), .inr (some (.inr HS_republic)), .inr (some (.inr HS_now)), .inr (some (.inr HS_kept)), .inr (some (.inr HS_trial)), .inr (some (.inr HS_clerk)), .inr (some (.inr HS_crew)), .inr (some (.inr HS_riddles)), .inr (some (.inr HS_sheetReader)), .inr (some (.inr HS_postReader)), .inr (some (.inl 3)), .inr (some (.inr HS_seen)), .inr (some (.inr HS_rules)), .inr (some (.inl 4)), .inl HS_wasKept]), .inr (9, [.inr (some (.inl 2)), .inl Tape_size]), .inl (0, 260, Tape_bytes), .inr (3, [.inr (some (.inl 2)), .inl LR_end, .inl LR_at, .inl LR_ahead, .inl LR_fault, (.inr (some (.inl 4)))]), .inr (2, [.inr (some (.inl 5)), .inr (some (.inl 6)), .inr (some (.inl 7)), .inr (some (.inl 8)), .inr (some (.inl 9)), .inr (some (.inl 10)), .inl Spare_rules, .inl Spare_steps, .inl Spare_waiting, .inl Spare_refused]), .inl (0, 16, Spare_kind), .inl (0, 16, Spare_worthAt), .inl (0, 16, Spare_testAt), .inl (0, 280, Spare_step), .inl (0, 280, Spare_beside), .inl (0, 24, Spare_stack)]) := by
  refine m_X11_law  (Nat.le_of_ble_eq_true rfl) ?_ 
  refine call0 (c_canGive) rfl rfl ?_
  rintro r h' ⟨rfl, rfl⟩
  exact br_b (fun _ => ⟨rfl, rfl⟩) (fun g => absurd ⟨g.1, g.2⟩ hN)
def HI_lawCS : List AC := [.inr (10, [.inr (.inr (some (.inl 1))), .inr (.inr (some (.inr 0))), .inr (.inr (some (.inr 1))), .inr (.inr (some (.inr 2))), .inr (.inr (some (.inr 3))), .inr (.inr (some (.inr 4))), .inr (.inr (some (.inr 5))), .inr (.inr (some (.inr 6))), .inr (.inr (some (.inr 7))), .inr (.inr (some (.inr 8))), .inr (.inr (some (.inl 3))), .inr (.inr (some (.inr 9))), .inr (.inr (some (.inr 10))), .inr (.inr (some (.inl 4))), .inr (.inr (some (.inr 201)))]), .inr (9, [.inr (.inr (some (.inl 2))), .inr (.inr (some (.inr 202)))]), .inl (1000, 260, 0, 255), .inr (3, [.inr (.inr (some (.inl 2))), .inl (-2147483648, 2147483647), .inl (-2147483648, 2147483647), .inl (-2147483648, 2147483647), .inl (-2147483648, 2147483647), .inr (.inr (some (.inl 4)))]), .inr (2, [.inr (.inr (some (.inl 5))), .inr (.inr (some (.inl 6))), .inr (.inr (some (.inl 7))), .inr (.inr (some (.inl 8))), .inr (.inr (some (.inl 9))), .inr (.inr (some (.inl 10))), .inl (0, 16), .inl (0, 280), .inl (0, 24), .inl (0, 1)]), .inl (0, 16, -2147483648, 2147483647), .inl (0, 16, -2147483648, 2147483647), .inl (0, 16, -2147483648, 2147483647), .inl (0, 280, -2147483648, 2147483647), .inl (0, 280, -2147483648, 2147483647), .inl (0, 24, -2147483648, 2147483647)]
set_option maxRecDepth 100000 in
theorem i_nlawCS {l : Launch} {a : Int32} : conOkI (MetP l 103 yX11_law cX11_law 4 (some .int) 0 0) [a] (-1) HI_lawCS (fun τ => ¬ nd_law a (decA (τ 202) 0)) := by
  intro τ hΦ hP h hh
  have hP : ¬ nd_law a (decA (τ 202) 0) := hP
  have z := all2_cons hh
  clear hh
  obtain ⟨e0, h, rfl, g0, hh⟩ := z
  rcases e0 with ⟨t0, n0, f0⟩ | ⟨ci, fs⟩
  · exact g0.elim
  obtain ⟨rfl, gf⟩ := g0
  have z := all2_cons gf
  clear gf
  obtain ⟨v0, fs, rfl, q0, gf⟩ := z
  cases (q0 : v0 = .inr (some (.inl 1)))
  have z := all2_cons gf
  clear gf
  obtain ⟨v0, fs, rfl, q0, gf⟩ := z
  cases gT_r (τ := τ) (t := 0) (v := v0) rfl q0
  have z := all2_cons gf
  clear gf
  obtain ⟨v0, fs, rfl, q0, gf⟩ := z
  cases gT_r (τ := τ) (t := 1) (v := v0) rfl q0
  have z := all2_cons gf
  clear gf
  obtain ⟨v0, fs, rfl, q0, gf⟩ := z
  cases gT_r (τ := τ) (t := 2) (v := v0) rfl q0
  have z := all2_cons gf
  clear gf
  obtain ⟨v0, fs, rfl, q0, gf⟩ := z
  cases gT_r (τ := τ) (t := 3) (v := v0) rfl q0
  have z := all2_cons gf
  clear gf
  obtain ⟨v0, fs, rfl, q0, gf⟩ := z
  cases gT_r (τ := τ) (t := 4) (v := v0) rfl q0
  have z := all2_cons gf
  clear gf
  obtain ⟨v0, fs, rfl, q0, gf⟩ := z
  cases gT_r (τ := τ) (t := 5) (v := v0) rfl q0
  have z := all2_cons gf
  clear gf
  obtain ⟨v0, fs, rfl, q0, gf⟩ := z
  cases gT_r (τ := τ) (t := 6) (v := v0) rfl q0
  have z := all2_cons gf
  clear gf
  obtain ⟨v0, fs, rfl, q0, gf⟩ := z
  cases gT_r (τ := τ) (t := 7) (v := v0) rfl q0
  have z := all2_cons gf
  clear gf
  obtain ⟨v0, fs, rfl, q0, gf⟩ := z
  cases gT_r (τ := τ) (t := 8) (v := v0) rfl q0
  have z := all2_cons gf
  clear gf
  obtain ⟨v0, fs, rfl, q0, gf⟩ := z
  cases (q0 : v0 = .inr (some (.inl 3)))
  have z := all2_cons gf
  clear gf
  obtain ⟨v0, fs, rfl, q0, gf⟩ := z
  cases gT_r (τ := τ) (t := 9) (v := v0) rfl q0
  have z := all2_cons gf
  clear gf
  obtain ⟨v0, fs, rfl, q0, gf⟩ := z
  cases gT_r (τ := τ) (t := 10) (v := v0) rfl q0
  have z := all2_cons gf
  clear gf
  obtain ⟨v0, fs, rfl, q0, gf⟩ := z
  cases (q0 : v0 = .inr (some (.inl 4)))
  have z := all2_cons gf
  clear gf
  obtain ⟨v0, fs, rfl, q0, gf⟩ := z
  obtain ⟨HS_wasKept, rfl, e_HS_wasKept, b_HS_wasKept⟩ := gT_x (τ := τ) (t := 201) (v := v0) rfl q0
  cases fs with
  | cons _ _ => exact gf.elim
  | nil =>
    have z := all2_cons hh
    clear hh
    obtain ⟨e0, h, rfl, g0, hh⟩ := z
    rcases e0 with ⟨t0, n0, f0⟩ | ⟨ci, fs⟩
    · exact g0.elim
    obtain ⟨rfl, gf⟩ := g0
    have z := all2_cons gf
    clear gf
    obtain ⟨v0, fs, rfl, q0, gf⟩ := z
    cases (q0 : v0 = .inr (some (.inl 2)))
    have z := all2_cons gf
    clear gf
    obtain ⟨v0, fs, rfl, q0, gf⟩ := z
    obtain ⟨Tape_size, rfl, e_Tape_size, b_Tape_size⟩ := gT_x (τ := τ) (t := 202) (v := v0) rfl q0
    cases fs with
    | cons _ _ => exact gf.elim
    | nil =>
      have z := all2_cons hh
      clear hh
      obtain ⟨e1, h, rfl, g1, hh⟩ := z
      rcases e1 with ⟨t1, n1, Tape_bytes⟩ | ⟨ci, fs⟩
      rotate_left
      · exact g1.elim
      obtain ⟨et, en, b_Tape_bytes⟩ := g1
      cases (et : t1 = 0)
      cases en
      have z := all2_cons hh
      clear hh
      obtain ⟨e0, h, rfl, g0, hh⟩ := z
      rcases e0 with ⟨t0, n0, f0⟩ | ⟨ci, fs⟩
      · exact g0.elim
      obtain ⟨rfl, gf⟩ := g0
      have z := all2_cons gf
      clear gf
      obtain ⟨v0, fs, rfl, q0, gf⟩ := z
      cases (q0 : v0 = .inr (some (.inl 2)))
      have z := all2_cons gf
      clear gf
      obtain ⟨v0, fs, rfl, q0, gf⟩ := z
      obtain ⟨LR_end, rfl, b_LR_end⟩ := q0
      have z := all2_cons gf
      clear gf
      obtain ⟨v0, fs, rfl, q0, gf⟩ := z
      obtain ⟨LR_at, rfl, b_LR_at⟩ := q0
      have z := all2_cons gf
      clear gf
      obtain ⟨v0, fs, rfl, q0, gf⟩ := z
      obtain ⟨LR_ahead, rfl, b_LR_ahead⟩ := q0
      have z := all2_cons gf
      clear gf
      obtain ⟨v0, fs, rfl, q0, gf⟩ := z
      obtain ⟨LR_fault, rfl, b_LR_fault⟩ := q0
      have z := all2_cons gf
      clear gf
      obtain ⟨v0, fs, rfl, q0, gf⟩ := z
      cases (q0 : v0 = .inr (some (.inl 4)))
      cases fs with
      | cons _ _ => exact gf.elim
      | nil =>
        have z := all2_cons hh
        clear hh
        obtain ⟨e0, h, rfl, g0, hh⟩ := z
        rcases e0 with ⟨t0, n0, f0⟩ | ⟨ci, fs⟩
        · exact g0.elim
        obtain ⟨rfl, gf⟩ := g0
        have z := all2_cons gf
        clear gf
        obtain ⟨v0, fs, rfl, q0, gf⟩ := z
        cases (q0 : v0 = .inr (some (.inl 5)))
        have z := all2_cons gf
        clear gf
        obtain ⟨v0, fs, rfl, q0, gf⟩ := z
        cases (q0 : v0 = .inr (some (.inl 6)))
        have z := all2_cons gf
        clear gf
        obtain ⟨v0, fs, rfl, q0, gf⟩ := z
        cases (q0 : v0 = .inr (some (.inl 7)))
        have z := all2_cons gf
        clear gf
        obtain ⟨v0, fs, rfl, q0, gf⟩ := z
        cases (q0 : v0 = .inr (some (.inl 8)))
        have z := all2_cons gf
        clear gf
        obtain ⟨v0, fs, rfl, q0, gf⟩ := z
        cases (q0 : v0 = .inr (some (.inl 9)))
        have z := all2_cons gf
        clear gf
        obtain ⟨v0, fs, rfl, q0, gf⟩ := z
        cases (q0 : v0 = .inr (some (.inl 10)))
        have z := all2_cons gf
        clear gf
        obtain ⟨v0, fs, rfl, q0, gf⟩ := z
        obtain ⟨Spare_rules, rfl, b_Spare_rules⟩ := q0
        have z := all2_cons gf
        clear gf
        obtain ⟨v0, fs, rfl, q0, gf⟩ := z
        obtain ⟨Spare_steps, rfl, b_Spare_steps⟩ := q0
        have z := all2_cons gf
        clear gf
        obtain ⟨v0, fs, rfl, q0, gf⟩ := z
        obtain ⟨Spare_waiting, rfl, b_Spare_waiting⟩ := q0
        have z := all2_cons gf
        clear gf
        obtain ⟨v0, fs, rfl, q0, gf⟩ := z
        obtain ⟨Spare_refused, rfl, b_Spare_refused⟩ := q0
        cases fs with
        | cons _ _ => exact gf.elim
        | nil =>
          have z := all2_cons hh
          clear hh
          obtain ⟨e1, h, rfl, g1, hh⟩ := z
          rcases e1 with ⟨t1, n1, Spare_kind⟩ | ⟨ci, fs⟩
          rotate_left
          · exact g1.elim
          obtain ⟨et, en, b_Spare_kind⟩ := g1
          cases (et : t1 = 0)
          cases en
          have z := all2_cons hh
          clear hh
          obtain ⟨e1, h, rfl, g1, hh⟩ := z
          rcases e1 with ⟨t1, n1, Spare_worthAt⟩ | ⟨ci, fs⟩
          rotate_left
          · exact g1.elim
          obtain ⟨et, en, b_Spare_worthAt⟩ := g1
          cases (et : t1 = 0)
          cases en
          have z := all2_cons hh
          clear hh
          obtain ⟨e1, h, rfl, g1, hh⟩ := z
          rcases e1 with ⟨t1, n1, Spare_testAt⟩ | ⟨ci, fs⟩
          rotate_left
          · exact g1.elim
          obtain ⟨et, en, b_Spare_testAt⟩ := g1
          cases (et : t1 = 0)
          cases en
          have z := all2_cons hh
          clear hh
          obtain ⟨e1, h, rfl, g1, hh⟩ := z
          rcases e1 with ⟨t1, n1, Spare_step⟩ | ⟨ci, fs⟩
          rotate_left
          · exact g1.elim
          obtain ⟨et, en, b_Spare_step⟩ := g1
          cases (et : t1 = 0)
          cases en
          have z := all2_cons hh
          clear hh
          obtain ⟨e1, h, rfl, g1, hh⟩ := z
          rcases e1 with ⟨t1, n1, Spare_beside⟩ | ⟨ci, fs⟩
          rotate_left
          · exact g1.elim
          obtain ⟨et, en, b_Spare_beside⟩ := g1
          cases (et : t1 = 0)
          cases en
          have z := all2_cons hh
          clear hh
          obtain ⟨e1, h, rfl, g1, hh⟩ := z
          rcases e1 with ⟨t1, n1, Spare_stack⟩ | ⟨ci, fs⟩
          rotate_left
          · exact g1.elim
          obtain ⟨et, en, b_Spare_stack⟩ := g1
          cases (et : t1 = 0)
          cases en
          cases h with
          | cons _ _ => exact hh.elim
          | nil =>
            rw [← e_Tape_size] at hP
            exact c_nlawCS hP

set_option maxRecDepth 100000 in
theorem c_nlawCR {l : Launch} {HS_republic HS_now HS_kept HS_trial HS_clerk HS_crew HS_riddles HS_sheetReader HS_postReader HS_seen HS_rules LR_into : List (Option Nat)} {HS_wasKept Tape_size LR_end LR_at LR_ahead LR_fault Spare_rules Spare_steps Spare_waiting Spare_refused : Int32} {Tape_bytes Spare_kind Spare_worthAt Spare_testAt Spare_step Spare_beside Spare_stack : Nat → Int32}  {a : Int32} (hN : ¬ nd_law a Tape_size) : MetP l 103 yX11_law cX11_law 4 (some .int) 0 0 [.inr (some (.inl 0)), .inl a] [.inr (10, [.inr (some (.inl 1)), .inr (some (.inr HS_republic)), .inr (some (.inr HS_now)), .inr (some (.inr HS_kept)), .inr (some (.inr HS_trial)), .inr (some (.inr HS_clerk)), .inr (some (.inr HS_crew)), .inr (some (.inr HS_riddles)), .inr (some (.inr HS_sheetReader)), .inr (some (.inr HS_postReader)), .inr (some (.inl 3)), .inr (some (.inr HS_seen)), .inr (some (.inr HS_rules)), .inr (some (.inl 4)), .inl HS_wasKept]), .inr (9, [.inr (some (.inl 2)), .inl Tape_size]), .inl (0, 260, Tape_bytes), .inr (3, [.inr (some (.inl 2)), .inl LR_end, .inl LR_at, .inl LR_ahead, .inl LR_fault, .inr (some (.inr LR_into))]), .inr (2, [.inr (some (.inl 5)), .inr (some (.inl 6)), .inr (some (.inl 7)), .inr (some (.inl 8)), .inr (some (.inl 9)), .inr (some (.inl 10)), .inl Spare_rules, .inl Spare_steps, .inl Spare_waiting, .inl Spare_refused]), .inl (0, 16, Spare_kind), .inl (0, 16, Spare_worthAt), .inl (0, 16, Spare_testAt), .inl (0, 280, Spare_step), .inl (0, 280, Spare_beside), .inl (0, 24, Spare_stack)] (fun r h' => r = some (.inl (-1)) ∧ h' = [.inr (10, [.inr (some (.inl 1)), .inr (some (.inr HS_republic)), .inr (some (.inr HS_now)), .inr (some (.inr HS_kept)), .inr (some (.inr HS_trial)), .inr (some (.inr HS_clerk)), .inr (some (.inr HS_crew)), .inr (some (.inr HS_riddles)), .inr (some (.inr HS_sheetReader)), .inr (some (.inr HS_postReader)), .inr (some (.inl 3)), .inr (some (.inr HS_seen)), .inr (some (.inr HS_rules)), .inr (some (.inl 4)), .inl HS_wasKept]), .inr (9, [.inr (some (.inl 2)), .inl Tape_size]), .inl (0, 260, Tape_bytes), .inr (3, [.inr (some (.inl 2)), .inl LR_end, .inl LR_at, .inl LR_ahead, .inl LR_fault, .inr (some (.inr LR_into))]), .inr (2, [.inr (some (.inl 5)), .inr (some (.inl 6)), .inr (some (.inl 7)), .inr (some (.inl 8)), .inr (some (.inl 9)), .inr (some (.inl 10)), .inl Spare_rules, .inl Spare_steps, .inl Spare_waiting, .inl Spare_refused]), .inl (0, 16, Spare_kind), .inl (0, 16, Spare_worthAt), .inl (0, 16, Spare_testAt), .inl (0, 280, Spare_step), .inl (0, 280, Spare_beside), .inl (0, 24, Spare_stack)]) := by
  refine m_X11_law  (Nat.le_of_ble_eq_true rfl) ?_ 
  refine call0 (c_canGive) rfl rfl ?_
  rintro r h' ⟨rfl, rfl⟩
  exact br_b (fun _ => ⟨rfl, rfl⟩) (fun g => absurd ⟨g.1, g.2⟩ hN)
def HI_lawCR : List AC := [.inr (10, [.inr (.inr (some (.inl 1))), .inr (.inr (some (.inr 0))), .inr (.inr (some (.inr 1))), .inr (.inr (some (.inr 2))), .inr (.inr (some (.inr 3))), .inr (.inr (some (.inr 4))), .inr (.inr (some (.inr 5))), .inr (.inr (some (.inr 6))), .inr (.inr (some (.inr 7))), .inr (.inr (some (.inr 8))), .inr (.inr (some (.inl 3))), .inr (.inr (some (.inr 9))), .inr (.inr (some (.inr 10))), .inr (.inr (some (.inl 4))), .inr (.inr (some (.inr 201)))]), .inr (9, [.inr (.inr (some (.inl 2))), .inr (.inr (some (.inr 202)))]), .inl (1000, 260, 0, 255), .inr (3, [.inr (.inr (some (.inl 2))), .inl (-2147483648, 2147483647), .inl (-2147483648, 2147483647), .inl (-2147483648, 2147483647), .inl (-2147483648, 2147483647), .inr (.inr (some (.inr 10)))]), .inr (2, [.inr (.inr (some (.inl 5))), .inr (.inr (some (.inl 6))), .inr (.inr (some (.inl 7))), .inr (.inr (some (.inl 8))), .inr (.inr (some (.inl 9))), .inr (.inr (some (.inl 10))), .inl (0, 16), .inl (0, 280), .inl (0, 24), .inl (0, 1)]), .inl (0, 16, -2147483648, 2147483647), .inl (0, 16, -2147483648, 2147483647), .inl (0, 16, -2147483648, 2147483647), .inl (0, 280, -2147483648, 2147483647), .inl (0, 280, -2147483648, 2147483647), .inl (0, 24, -2147483648, 2147483647)]
set_option maxRecDepth 100000 in
theorem i_nlawCR {l : Launch} {a : Int32} : conOkI (MetP l 103 yX11_law cX11_law 4 (some .int) 0 0) [a] (-1) HI_lawCR (fun τ => ¬ nd_law a (decA (τ 202) 0)) := by
  intro τ hΦ hP h hh
  have hP : ¬ nd_law a (decA (τ 202) 0) := hP
  have z := all2_cons hh
  clear hh
  obtain ⟨e0, h, rfl, g0, hh⟩ := z
  rcases e0 with ⟨t0, n0, f0⟩ | ⟨ci, fs⟩
  · exact g0.elim
  obtain ⟨rfl, gf⟩ := g0
  have z := all2_cons gf
  clear gf
  obtain ⟨v0, fs, rfl, q0, gf⟩ := z
  cases (q0 : v0 = .inr (some (.inl 1)))
  have z := all2_cons gf
  clear gf
  obtain ⟨v0, fs, rfl, q0, gf⟩ := z
  cases gT_r (τ := τ) (t := 0) (v := v0) rfl q0
  have z := all2_cons gf
  clear gf
  obtain ⟨v0, fs, rfl, q0, gf⟩ := z
  cases gT_r (τ := τ) (t := 1) (v := v0) rfl q0
  have z := all2_cons gf
  clear gf
  obtain ⟨v0, fs, rfl, q0, gf⟩ := z
  cases gT_r (τ := τ) (t := 2) (v := v0) rfl q0
  have z := all2_cons gf
  clear gf
  obtain ⟨v0, fs, rfl, q0, gf⟩ := z
  cases gT_r (τ := τ) (t := 3) (v := v0) rfl q0
  have z := all2_cons gf
  clear gf
  obtain ⟨v0, fs, rfl, q0, gf⟩ := z
  cases gT_r (τ := τ) (t := 4) (v := v0) rfl q0
  have z := all2_cons gf
  clear gf
  obtain ⟨v0, fs, rfl, q0, gf⟩ := z
  cases gT_r (τ := τ) (t := 5) (v := v0) rfl q0
  have z := all2_cons gf
  clear gf
  obtain ⟨v0, fs, rfl, q0, gf⟩ := z
  cases gT_r (τ := τ) (t := 6) (v := v0) rfl q0
  have z := all2_cons gf
  clear gf
  obtain ⟨v0, fs, rfl, q0, gf⟩ := z
  cases gT_r (τ := τ) (t := 7) (v := v0) rfl q0
  have z := all2_cons gf
  clear gf
  obtain ⟨v0, fs, rfl, q0, gf⟩ := z
  cases gT_r (τ := τ) (t := 8) (v := v0) rfl q0
  have z := all2_cons gf
  clear gf
  obtain ⟨v0, fs, rfl, q0, gf⟩ := z
  cases (q0 : v0 = .inr (some (.inl 3)))
  have z := all2_cons gf
  clear gf
  obtain ⟨v0, fs, rfl, q0, gf⟩ := z
  cases gT_r (τ := τ) (t := 9) (v := v0) rfl q0
  have z := all2_cons gf
  clear gf
  obtain ⟨v0, fs, rfl, q0, gf⟩ := z
  cases gT_r (τ := τ) (t := 10) (v := v0) rfl q0
  have z := all2_cons gf
  clear gf
  obtain ⟨v0, fs, rfl, q0, gf⟩ := z
  cases (q0 : v0 = .inr (some (.inl 4)))
  have z := all2_cons gf
  clear gf
  obtain ⟨v0, fs, rfl, q0, gf⟩ := z
  obtain ⟨HS_wasKept, rfl, e_HS_wasKept, b_HS_wasKept⟩ := gT_x (τ := τ) (t := 201) (v := v0) rfl q0
  cases fs with
  | cons _ _ => exact gf.elim
  | nil =>
    have z := all2_cons hh
    clear hh
    obtain ⟨e0, h, rfl, g0, hh⟩ := z
    rcases e0 with ⟨t0, n0, f0⟩ | ⟨ci, fs⟩
    · exact g0.elim
    obtain ⟨rfl, gf⟩ := g0
    have z := all2_cons gf
    clear gf
    obtain ⟨v0, fs, rfl, q0, gf⟩ := z
    cases (q0 : v0 = .inr (some (.inl 2)))
    have z := all2_cons gf
    clear gf
    obtain ⟨v0, fs, rfl, q0, gf⟩ := z
    obtain ⟨Tape_size, rfl, e_Tape_size, b_Tape_size⟩ := gT_x (τ := τ) (t := 202) (v := v0) rfl q0
    cases fs with
    | cons _ _ => exact gf.elim
    | nil =>
      have z := all2_cons hh
      clear hh
      obtain ⟨e1, h, rfl, g1, hh⟩ := z
      rcases e1 with ⟨t1, n1, Tape_bytes⟩ | ⟨ci, fs⟩
      rotate_left
      · exact g1.elim
      obtain ⟨et, en, b_Tape_bytes⟩ := g1
      cases (et : t1 = 0)
      cases en
      have z := all2_cons hh
      clear hh
      obtain ⟨e0, h, rfl, g0, hh⟩ := z
      rcases e0 with ⟨t0, n0, f0⟩ | ⟨ci, fs⟩
      · exact g0.elim
      obtain ⟨rfl, gf⟩ := g0
      have z := all2_cons gf
      clear gf
      obtain ⟨v0, fs, rfl, q0, gf⟩ := z
      cases (q0 : v0 = .inr (some (.inl 2)))
      have z := all2_cons gf
      clear gf
      obtain ⟨v0, fs, rfl, q0, gf⟩ := z
      obtain ⟨LR_end, rfl, b_LR_end⟩ := q0
      have z := all2_cons gf
      clear gf
      obtain ⟨v0, fs, rfl, q0, gf⟩ := z
      obtain ⟨LR_at, rfl, b_LR_at⟩ := q0
      have z := all2_cons gf
      clear gf
      obtain ⟨v0, fs, rfl, q0, gf⟩ := z
      obtain ⟨LR_ahead, rfl, b_LR_ahead⟩ := q0
      have z := all2_cons gf
      clear gf
      obtain ⟨v0, fs, rfl, q0, gf⟩ := z
      obtain ⟨LR_fault, rfl, b_LR_fault⟩ := q0
      have z := all2_cons gf
      clear gf
      obtain ⟨v0, fs, rfl, q0, gf⟩ := z
      cases gT_r (τ := τ) (t := 10) (v := v0) rfl q0
      cases fs with
      | cons _ _ => exact gf.elim
      | nil =>
        have z := all2_cons hh
        clear hh
        obtain ⟨e0, h, rfl, g0, hh⟩ := z
        rcases e0 with ⟨t0, n0, f0⟩ | ⟨ci, fs⟩
        · exact g0.elim
        obtain ⟨rfl, gf⟩ := g0
        have z := all2_cons gf
        clear gf
        obtain ⟨v0, fs, rfl, q0, gf⟩ := z
        cases (q0 : v0 = .inr (some (.inl 5)))
        have z := all2_cons gf
        clear gf
        obtain ⟨v0, fs, rfl, q0, gf⟩ := z
        cases (q0 : v0 = .inr (some (.inl 6)))
        have z := all2_cons gf
        clear gf
        obtain ⟨v0, fs, rfl, q0, gf⟩ := z
        cases (q0 : v0 = .inr (some (.inl 7)))
        have z := all2_cons gf
        clear gf
        obtain ⟨v0, fs, rfl, q0, gf⟩ := z
        cases (q0 : v0 = .inr (some (.inl 8)))
        have z := all2_cons gf
        clear gf
        obtain ⟨v0, fs, rfl, q0, gf⟩ := z
        cases (q0 : v0 = .inr (some (.inl 9)))
        have z := all2_cons gf
        clear gf
        obtain ⟨v0, fs, rfl, q0, gf⟩ := z
        cases (q0 : v0 = .inr (some (.inl 10)))
        have z := all2_cons gf
        clear gf
        obtain ⟨v0, fs, rfl, q0, gf⟩ := z
        obtain ⟨Spare_rules, rfl, b_Spare_rules⟩ := q0
        have z := all2_cons gf
        clear gf
        obtain ⟨v0, fs, rfl, q0, gf⟩ := z
        obtain ⟨Spare_steps, rfl, b_Spare_steps⟩ := q0
        have z := all2_cons gf
        clear gf
        obtain ⟨v0, fs, rfl, q0, gf⟩ := z
        obtain ⟨Spare_waiting, rfl, b_Spare_waiting⟩ := q0
        have z := all2_cons gf
        clear gf
        obtain ⟨v0, fs, rfl, q0, gf⟩ := z
        obtain ⟨Spare_refused, rfl, b_Spare_refused⟩ := q0
        cases fs with
        | cons _ _ => exact gf.elim
        | nil =>
          have z := all2_cons hh
          clear hh
          obtain ⟨e1, h, rfl, g1, hh⟩ := z
          rcases e1 with ⟨t1, n1, Spare_kind⟩ | ⟨ci, fs⟩
          rotate_left
          · exact g1.elim
          obtain ⟨et, en, b_Spare_kind⟩ := g1
          cases (et : t1 = 0)
          cases en
          have z := all2_cons hh
          clear hh
          obtain ⟨e1, h, rfl, g1, hh⟩ := z
          rcases e1 with ⟨t1, n1, Spare_worthAt⟩ | ⟨ci, fs⟩
          rotate_left
          · exact g1.elim
          obtain ⟨et, en, b_Spare_worthAt⟩ := g1
          cases (et : t1 = 0)
          cases en
          have z := all2_cons hh
          clear hh
          obtain ⟨e1, h, rfl, g1, hh⟩ := z
          rcases e1 with ⟨t1, n1, Spare_testAt⟩ | ⟨ci, fs⟩
          rotate_left
          · exact g1.elim
          obtain ⟨et, en, b_Spare_testAt⟩ := g1
          cases (et : t1 = 0)
          cases en
          have z := all2_cons hh
          clear hh
          obtain ⟨e1, h, rfl, g1, hh⟩ := z
          rcases e1 with ⟨t1, n1, Spare_step⟩ | ⟨ci, fs⟩
          rotate_left
          · exact g1.elim
          obtain ⟨et, en, b_Spare_step⟩ := g1
          cases (et : t1 = 0)
          cases en
          have z := all2_cons hh
          clear hh
          obtain ⟨e1, h, rfl, g1, hh⟩ := z
          rcases e1 with ⟨t1, n1, Spare_beside⟩ | ⟨ci, fs⟩
          rotate_left
          · exact g1.elim
          obtain ⟨et, en, b_Spare_beside⟩ := g1
          cases (et : t1 = 0)
          cases en
          have z := all2_cons hh
          clear hh
          obtain ⟨e1, h, rfl, g1, hh⟩ := z
          rcases e1 with ⟨t1, n1, Spare_stack⟩ | ⟨ci, fs⟩
          rotate_left
          · exact g1.elim
          obtain ⟨et, en, b_Spare_stack⟩ := g1
          cases (et : t1 = 0)
          cases en
          cases h with
          | cons _ _ => exact hh.elim
          | nil =>
            rw [← e_Tape_size] at hP
            exact c_nlawCR hP

set_option maxRecDepth 100000 in
theorem c_nlawR {l : Launch} {M_now M_aside M_kept M_mintAt M_mintOf M_wholeOf M_isWall M_wasWall M_stack M_facts M_newStamps M_roundFrom M_roundAt M_roundTimes M_usesNow M_wasAt M_someOf M_fewestFor M_getsOf : List (Option Nat)} {M_stampMany M_taped M_place0 M_length0 M_fault M_number0 M_open M_codeMany M_waiting M_saidMany M_clauses M_newMany M_rounds M_stampFrom M_stampTimes M_lines M_spot0 M_pullAcross M_pullAlong M_stepsNow M_fallenNow M_isKept : Int32} {M_tape M_said M_waitsAt M_saidLetter M_saidFrom M_saidHalf M_saidTo M_codes M_clauseOf M_codeFrom M_codeHalf M_codeTo : Nat → Int32}  {a : Int32} (hN : ¬ nd_law a M_taped) : MetP l 8 yX12_law cX12_law 4 (some .int) 0 0 [.inr (some (.inl 0)), .inl a] [.inr (11, [.inr (some (.inr M_now)), .inr (some (.inr M_aside)), .inr (some (.inr M_kept)), .inr (some (.inr M_mintAt)), .inr (some (.inr M_mintOf)), .inr (some (.inr M_wholeOf)), .inr (some (.inr M_isWall)), .inr (some (.inr M_wasWall)), .inl M_stampMany, .inr (some (.inl 1)), .inl M_taped, .inl M_place0, .inl M_length0, .inl M_fault, .inl M_number0, .inl M_open, .inl M_codeMany, .inl M_waiting, .inl M_saidMany, .inl M_clauses, .inr (some (.inl 2)), .inr (some (.inl 3)), .inr (some (.inl 4)), .inr (some (.inl 5)), .inr (some (.inl 6)), .inr (some (.inl 7)), .inr (some (.inl 8)), .inr (some (.inl 9)), .inr (some (.inl 10)), .inr (some (.inl 11)), .inr (some (.inl 12)), .inr (some (.inr M_stack)), .inr (some (.inr M_facts)), .inr (some (.inr M_newStamps)), .inr (some (.inr M_roundFrom)), .inr (some (.inr M_roundAt)), .inr (some (.inr M_roundTimes)), .inl M_newMany, .inl M_rounds, .inl M_stampFrom, .inl M_stampTimes, .inl M_lines, .inl M_spot0, .inl M_pullAcross, .inl M_pullAlong, .inl M_stepsNow, .inl M_fallenNow, .inr (some (.inr M_usesNow)), .inr (some (.inr M_wasAt)), .inr (some (.inr M_someOf)), .inr (some (.inr M_fewestFor)), .inr (some (.inr M_getsOf)), .inl M_isKept]), .inl (1, 260, M_tape), .inl (0, 260, M_said), .inl (0, 260, M_waitsAt), .inl (0, 16, M_saidLetter), .inl (0, 16, M_saidFrom), .inl (0, 16, M_saidHalf), .inl (0, 16, M_saidTo), .inl (0, 260, M_codes), .inl (0, 16, M_clauseOf), .inl (0, 16, M_codeFrom), .inl (0, 16, M_codeHalf), .inl (0, 16, M_codeTo)] (fun r h' => r = some (.inl (-1)) ∧ h' = [.inr (11, [.inr (some (.inr M_now)), .inr (some (.inr M_aside)), .inr (some (.inr M_kept)), .inr (some (.inr M_mintAt)), .inr (some (.inr M_mintOf)), .inr (some (.inr M_wholeOf)), .inr (some (.inr M_isWall)), .inr (some (.inr M_wasWall)), .inl M_stampMany, .inr (some (.inl 1)), .inl M_taped, .inl M_place0, .inl M_length0, .inl M_fault, .inl M_number0, .inl M_open, .inl M_codeMany, .inl M_waiting, .inl M_saidMany, .inl M_clauses, .inr (some (.inl 2)), .inr (some (.inl 3)), .inr (some (.inl 4)), .inr (some (.inl 5)), .inr (some (.inl 6)), .inr (some (.inl 7)), .inr (some (.inl 8)), .inr (some (.inl 9)), .inr (some (.inl 10)), .inr (some (.inl 11)), .inr (some (.inl 12)), .inr (some (.inr M_stack)), .inr (some (.inr M_facts)), .inr (some (.inr M_newStamps)), .inr (some (.inr M_roundFrom)), .inr (some (.inr M_roundAt)), .inr (some (.inr M_roundTimes)), .inl M_newMany, .inl M_rounds, .inl M_stampFrom, .inl M_stampTimes, .inl M_lines, .inl M_spot0, .inl M_pullAcross, .inl M_pullAlong, .inl M_stepsNow, .inl M_fallenNow, .inr (some (.inr M_usesNow)), .inr (some (.inr M_wasAt)), .inr (some (.inr M_someOf)), .inr (some (.inr M_fewestFor)), .inr (some (.inr M_getsOf)), .inl M_isKept]), .inl (1, 260, M_tape), .inl (0, 260, M_said), .inl (0, 260, M_waitsAt), .inl (0, 16, M_saidLetter), .inl (0, 16, M_saidFrom), .inl (0, 16, M_saidHalf), .inl (0, 16, M_saidTo), .inl (0, 260, M_codes), .inl (0, 16, M_clauseOf), .inl (0, 16, M_codeFrom), .inl (0, 16, M_codeHalf), .inl (0, 16, M_codeTo)]) := by
  refine m_X12_law (fun _ _ _ _ => False) (fun _ _ _ _ => False) (fun _ _ _ _ => False) (Nat.le_of_ble_eq_true rfl) ?_ (fun _ _ _ _ z => z.elim) (fun _ _ _ _ z => z.elim) (fun _ _ _ _ z => z.elim)
  refine call0 (c_in) rfl rfl ?_
  rintro r h' ⟨rfl, rfl⟩
  refine br_b (fun _ => ⟨rfl, rfl⟩) (fun g1 => ?_)
  exact And.intro (fun g => absurd ⟨g1, g⟩ hN) (fun _ => ⟨rfl, rfl⟩)
def HI_lawR : List AC := [.inr (11, [.inr (.inr (some (.inr 0))), .inr (.inr (some (.inr 1))), .inr (.inr (some (.inr 2))), .inr (.inr (some (.inr 3))), .inr (.inr (some (.inr 4))), .inr (.inr (some (.inr 5))), .inr (.inr (some (.inr 6))), .inr (.inr (some (.inr 7))), .inr (.inr (some (.inr 205))), .inr (.inr (some (.inl 1))), .inr (.inr (some (.inr 202))), .inl (0, 240), .inl (0, 240), .inl (-2147483648, 2147483647), .inl (-2147483648, 2147483647), .inl (-2147483648, 2147483647), .inl (0, 260), .inl (0, 260), .inl (0, 16), .inr (.inr (some (.inr 200))), .inr (.inr (some (.inl 2))), .inr (.inr (some (.inl 3))), .inr (.inr (some (.inl 4))), .inr (.inr (some (.inl 5))), .inr (.inr (some (.inl 6))), .inr (.inr (some (.inl 7))), .inr (.inr (some (.inl 8))), .inr (.inr (some (.inl 9))), .inr (.inr (some (.inl 10))), .inr (.inr (some (.inl 11))), .inr (.inr (some (.inl 12))), .inr (.inr (some (.inr 8))), .inr (.inr (some (.inr 9))), .inr (.inr (some (.inr 10))), .inr (.inr (some (.inr 11))), .inr (.inr (some (.inr 12))), .inr (.inr (some (.inr 13))), .inl (-2147483648, 2147483647), .inl (-2147483648, 2147483647), .inl (-2147483648, 2147483647), .inl (-2147483648, 2147483647), .inl (-2147483648, 2147483647), .inl (-2147483648, 2147483647), .inl (-2147483648, 2147483647), .inl (-2147483648, 2147483647), .inl (-2147483648, 2147483647), .inl (-2147483648, 2147483647), .inr (.inr (some (.inr 14))), .inr (.inr (some (.inr 15))), .inr (.inr (some (.inr 16))), .inr (.inr (some (.inr 17))), .inr (.inr (some (.inr 18))), .inr (.inr (some (.inr 201)))]), .inl (1005, 260, -128, 127), .inl (0, 260, -2147483648, 2147483647), .inl (0, 260, -2147483648, 2147483647), .inl (0, 16, -2147483648, 2147483647), .inl (0, 16, -2147483648, 2147483647), .inl (0, 16, -2147483648, 2147483647), .inl (0, 16, -2147483648, 2147483647), .inl (5, 260, 100, 0), .inl (0, 16, -2147483648, 2147483647), .inl (5, 16, 101, 0), .inl (5, 16, 102, 0), .inl (5, 16, 103, 0)]
set_option maxRecDepth 100000 in
theorem i_nlawR {l : Launch} {a : Int32} : conOkI (MetP l 8 yX12_law cX12_law 4 (some .int) 0 0) [a] (-1) HI_lawR (fun τ => ¬ nd_law a (decA (τ 202) 0)) := by
  intro τ hΦ hP h hh
  have hP : ¬ nd_law a (decA (τ 202) 0) := hP
  have z := all2_cons hh
  clear hh
  obtain ⟨e0, h, rfl, g0, hh⟩ := z
  rcases e0 with ⟨t0, n0, f0⟩ | ⟨ci, fs⟩
  · exact g0.elim
  obtain ⟨rfl, gf⟩ := g0
  have z := all2_cons gf
  clear gf
  obtain ⟨v0, fs, rfl, q0, gf⟩ := z
  cases gT_r (τ := τ) (t := 0) (v := v0) rfl q0
  have z := all2_cons gf
  clear gf
  obtain ⟨v0, fs, rfl, q0, gf⟩ := z
  cases gT_r (τ := τ) (t := 1) (v := v0) rfl q0
  have z := all2_cons gf
  clear gf
  obtain ⟨v0, fs, rfl, q0, gf⟩ := z
  cases gT_r (τ := τ) (t := 2) (v := v0) rfl q0
  have z := all2_cons gf
  clear gf
  obtain ⟨v0, fs, rfl, q0, gf⟩ := z
  cases gT_r (τ := τ) (t := 3) (v := v0) rfl q0
  have z := all2_cons gf
  clear gf
  obtain ⟨v0, fs, rfl, q0, gf⟩ := z
  cases gT_r (τ := τ) (t := 4) (v := v0) rfl q0
  have z := all2_cons gf
  clear gf
  obtain ⟨v0, fs, rfl, q0, gf⟩ := z
  cases gT_r (τ := τ) (t := 5) (v := v0) rfl q0
  have z := all2_cons gf
  clear gf
  obtain ⟨v0, fs, rfl, q0, gf⟩ := z
  cases gT_r (τ := τ) (t := 6) (v := v0) rfl q0
  have z := all2_cons gf
  clear gf
  obtain ⟨v0, fs, rfl, q0, gf⟩ := z
  cases gT_r (τ := τ) (t := 7) (v := v0) rfl q0
  have z := all2_cons gf
  clear gf
  obtain ⟨v0, fs, rfl, q0, gf⟩ := z
  obtain ⟨M_stampMany, rfl, e_M_stampMany, b_M_stampMany⟩ := gT_x (τ := τ) (t := 205) (v := v0) rfl q0
  have z := all2_cons gf
  clear gf
  obtain ⟨v0, fs, rfl, q0, gf⟩ := z
  cases (q0 : v0 = .inr (some (.inl 1)))
  have z := all2_cons gf
  clear gf
  obtain ⟨v0, fs, rfl, q0, gf⟩ := z
  obtain ⟨M_taped, rfl, e_M_taped, b_M_taped⟩ := gT_x (τ := τ) (t := 202) (v := v0) rfl q0
  have z := all2_cons gf
  clear gf
  obtain ⟨v0, fs, rfl, q0, gf⟩ := z
  obtain ⟨M_place0, rfl, b_M_place0⟩ := q0
  have z := all2_cons gf
  clear gf
  obtain ⟨v0, fs, rfl, q0, gf⟩ := z
  obtain ⟨M_length0, rfl, b_M_length0⟩ := q0
  have z := all2_cons gf
  clear gf
  obtain ⟨v0, fs, rfl, q0, gf⟩ := z
  obtain ⟨M_fault, rfl, b_M_fault⟩ := q0
  have z := all2_cons gf
  clear gf
  obtain ⟨v0, fs, rfl, q0, gf⟩ := z
  obtain ⟨M_number0, rfl, b_M_number0⟩ := q0
  have z := all2_cons gf
  clear gf
  obtain ⟨v0, fs, rfl, q0, gf⟩ := z
  obtain ⟨M_open, rfl, b_M_open⟩ := q0
  have z := all2_cons gf
  clear gf
  obtain ⟨v0, fs, rfl, q0, gf⟩ := z
  obtain ⟨M_codeMany, rfl, b_M_codeMany⟩ := q0
  have z := all2_cons gf
  clear gf
  obtain ⟨v0, fs, rfl, q0, gf⟩ := z
  obtain ⟨M_waiting, rfl, b_M_waiting⟩ := q0
  have z := all2_cons gf
  clear gf
  obtain ⟨v0, fs, rfl, q0, gf⟩ := z
  obtain ⟨M_saidMany, rfl, b_M_saidMany⟩ := q0
  have z := all2_cons gf
  clear gf
  obtain ⟨v0, fs, rfl, q0, gf⟩ := z
  obtain ⟨M_clauses, rfl, e_M_clauses, b_M_clauses⟩ := gT_x (τ := τ) (t := 200) (v := v0) rfl q0
  have z := all2_cons gf
  clear gf
  obtain ⟨v0, fs, rfl, q0, gf⟩ := z
  cases (q0 : v0 = .inr (some (.inl 2)))
  have z := all2_cons gf
  clear gf
  obtain ⟨v0, fs, rfl, q0, gf⟩ := z
  cases (q0 : v0 = .inr (some (.inl 3)))
  have z := all2_cons gf
  clear gf
  obtain ⟨v0, fs, rfl, q0, gf⟩ := z
  cases (q0 : v0 = .inr (some (.inl 4)))
  have z := all2_cons gf
  clear gf
  obtain ⟨v0, fs, rfl, q0, gf⟩ := z
  cases (q0 : v0 = .inr (some (.inl 5)))
  have z := all2_cons gf
  clear gf
  obtain ⟨v0, fs, rfl, q0, gf⟩ := z
  cases (q0 : v0 = .inr (some (.inl 6)))
  have z := all2_cons gf
  clear gf
  obtain ⟨v0, fs, rfl, q0, gf⟩ := z
  cases (q0 : v0 = .inr (some (.inl 7)))
  have z := all2_cons gf
  clear gf
  obtain ⟨v0, fs, rfl, q0, gf⟩ := z
  cases (q0 : v0 = .inr (some (.inl 8)))
  have z := all2_cons gf
  clear gf
  obtain ⟨v0, fs, rfl, q0, gf⟩ := z
  cases (q0 : v0 = .inr (some (.inl 9)))
  have z := all2_cons gf
  clear gf
  obtain ⟨v0, fs, rfl, q0, gf⟩ := z
  cases (q0 : v0 = .inr (some (.inl 10)))
  have z := all2_cons gf
  clear gf
  obtain ⟨v0, fs, rfl, q0, gf⟩ := z
  cases (q0 : v0 = .inr (some (.inl 11)))
  have z := all2_cons gf
  clear gf
  obtain ⟨v0, fs, rfl, q0, gf⟩ := z
  cases (q0 : v0 = .inr (some (.inl 12)))
  have z := all2_cons gf
  clear gf
  obtain ⟨v0, fs, rfl, q0, gf⟩ := z
  cases gT_r (τ := τ) (t := 8) (v := v0) rfl q0
  have z := all2_cons gf
  clear gf
  obtain ⟨v0, fs, rfl, q0, gf⟩ := z
  cases gT_r (τ := τ) (t := 9) (v := v0) rfl q0
  have z := all2_cons gf
  clear gf
  obtain ⟨v0, fs, rfl, q0, gf⟩ := z
  cases gT_r (τ := τ) (t := 10) (v := v0) rfl q0
  have z := all2_cons gf
  clear gf
  obtain ⟨v0, fs, rfl, q0, gf⟩ := z
  cases gT_r (τ := τ) (t := 11) (v := v0) rfl q0
  have z := all2_cons gf
  clear gf
  obtain ⟨v0, fs, rfl, q0, gf⟩ := z
  cases gT_r (τ := τ) (t := 12) (v := v0) rfl q0
  have z := all2_cons gf
  clear gf
  obtain ⟨v0, fs, rfl, q0, gf⟩ := z
  cases gT_r (τ := τ) (t := 13) (v := v0) rfl q0
  have z := all2_cons gf
  clear gf
  obtain ⟨v0, fs, rfl, q0, gf⟩ := z
  obtain ⟨M_newMany, rfl, b_M_newMany⟩ := q0
  have z := all2_cons gf
  clear gf
  obtain ⟨v0, fs, rfl, q0, gf⟩ := z
  obtain ⟨M_rounds, rfl, b_M_rounds⟩ := q0
  have z := all2_cons gf
  clear gf
  obtain ⟨v0, fs, rfl, q0, gf⟩ := z
  obtain ⟨M_stampFrom, rfl, b_M_stampFrom⟩ := q0
  have z := all2_cons gf
  clear gf
  obtain ⟨v0, fs, rfl, q0, gf⟩ := z
  obtain ⟨M_stampTimes, rfl, b_M_stampTimes⟩ := q0
  have z := all2_cons gf
  clear gf
  obtain ⟨v0, fs, rfl, q0, gf⟩ := z
  obtain ⟨M_lines, rfl, b_M_lines⟩ := q0
  have z := all2_cons gf
  clear gf
  obtain ⟨v0, fs, rfl, q0, gf⟩ := z
  obtain ⟨M_spot0, rfl, b_M_spot0⟩ := q0
  have z := all2_cons gf
  clear gf
  obtain ⟨v0, fs, rfl, q0, gf⟩ := z
  obtain ⟨M_pullAcross, rfl, b_M_pullAcross⟩ := q0
  have z := all2_cons gf
  clear gf
  obtain ⟨v0, fs, rfl, q0, gf⟩ := z
  obtain ⟨M_pullAlong, rfl, b_M_pullAlong⟩ := q0
  have z := all2_cons gf
  clear gf
  obtain ⟨v0, fs, rfl, q0, gf⟩ := z
  obtain ⟨M_stepsNow, rfl, b_M_stepsNow⟩ := q0
  have z := all2_cons gf
  clear gf
  obtain ⟨v0, fs, rfl, q0, gf⟩ := z
  obtain ⟨M_fallenNow, rfl, b_M_fallenNow⟩ := q0
  have z := all2_cons gf
  clear gf
  obtain ⟨v0, fs, rfl, q0, gf⟩ := z
  cases gT_r (τ := τ) (t := 14) (v := v0) rfl q0
  have z := all2_cons gf
  clear gf
  obtain ⟨v0, fs, rfl, q0, gf⟩ := z
  cases gT_r (τ := τ) (t := 15) (v := v0) rfl q0
  have z := all2_cons gf
  clear gf
  obtain ⟨v0, fs, rfl, q0, gf⟩ := z
  cases gT_r (τ := τ) (t := 16) (v := v0) rfl q0
  have z := all2_cons gf
  clear gf
  obtain ⟨v0, fs, rfl, q0, gf⟩ := z
  cases gT_r (τ := τ) (t := 17) (v := v0) rfl q0
  have z := all2_cons gf
  clear gf
  obtain ⟨v0, fs, rfl, q0, gf⟩ := z
  cases gT_r (τ := τ) (t := 18) (v := v0) rfl q0
  have z := all2_cons gf
  clear gf
  obtain ⟨v0, fs, rfl, q0, gf⟩ := z
  obtain ⟨M_isKept, rfl, e_M_isKept, b_M_isKept⟩ := gT_x (τ := τ) (t := 201) (v := v0) rfl q0
  cases fs with
  | cons _ _ => exact gf.elim
  | nil =>
    have z := all2_cons hh
    clear hh
    obtain ⟨e1, h, rfl, g1, hh⟩ := z
    rcases e1 with ⟨t1, n1, M_tape⟩ | ⟨ci, fs⟩
    rotate_left
    · exact g1.elim
    obtain ⟨et, en, b_M_tape⟩ := g1
    cases (et : t1 = 1)
    cases en
    have z := all2_cons hh
    clear hh
    obtain ⟨e1, h, rfl, g1, hh⟩ := z
    rcases e1 with ⟨t1, n1, M_said⟩ | ⟨ci, fs⟩
    rotate_left
    · exact g1.elim
    obtain ⟨et, en, b_M_said⟩ := g1
    cases (et : t1 = 0)
    cases en
    have z := all2_cons hh
    clear hh
    obtain ⟨e1, h, rfl, g1, hh⟩ := z
    rcases e1 with ⟨t1, n1, M_waitsAt⟩ | ⟨ci, fs⟩
    rotate_left
    · exact g1.elim
    obtain ⟨et, en, b_M_waitsAt⟩ := g1
    cases (et : t1 = 0)
    cases en
    have z := all2_cons hh
    clear hh
    obtain ⟨e1, h, rfl, g1, hh⟩ := z
    rcases e1 with ⟨t1, n1, M_saidLetter⟩ | ⟨ci, fs⟩
    rotate_left
    · exact g1.elim
    obtain ⟨et, en, b_M_saidLetter⟩ := g1
    cases (et : t1 = 0)
    cases en
    have z := all2_cons hh
    clear hh
    obtain ⟨e1, h, rfl, g1, hh⟩ := z
    rcases e1 with ⟨t1, n1, M_saidFrom⟩ | ⟨ci, fs⟩
    rotate_left
    · exact g1.elim
    obtain ⟨et, en, b_M_saidFrom⟩ := g1
    cases (et : t1 = 0)
    cases en
    have z := all2_cons hh
    clear hh
    obtain ⟨e1, h, rfl, g1, hh⟩ := z
    rcases e1 with ⟨t1, n1, M_saidHalf⟩ | ⟨ci, fs⟩
    rotate_left
    · exact g1.elim
    obtain ⟨et, en, b_M_saidHalf⟩ := g1
    cases (et : t1 = 0)
    cases en
    have z := all2_cons hh
    clear hh
    obtain ⟨e1, h, rfl, g1, hh⟩ := z
    rcases e1 with ⟨t1, n1, M_saidTo⟩ | ⟨ci, fs⟩
    rotate_left
    · exact g1.elim
    obtain ⟨et, en, b_M_saidTo⟩ := g1
    cases (et : t1 = 0)
    cases en
    have z := all2_cons hh
    clear hh
    obtain ⟨e1, h, rfl, g1, hh⟩ := z
    rcases e1 with ⟨t1, n1, M_codes⟩ | ⟨ci, fs⟩
    rotate_left
    · exact g1.elim
    obtain ⟨et, en, b_M_codes⟩ := g1
    cases (et : t1 = 0)
    cases en
    have z := all2_cons hh
    clear hh
    obtain ⟨e1, h, rfl, g1, hh⟩ := z
    rcases e1 with ⟨t1, n1, M_clauseOf⟩ | ⟨ci, fs⟩
    rotate_left
    · exact g1.elim
    obtain ⟨et, en, b_M_clauseOf⟩ := g1
    cases (et : t1 = 0)
    cases en
    have z := all2_cons hh
    clear hh
    obtain ⟨e1, h, rfl, g1, hh⟩ := z
    rcases e1 with ⟨t1, n1, M_codeFrom⟩ | ⟨ci, fs⟩
    rotate_left
    · exact g1.elim
    obtain ⟨et, en, b_M_codeFrom⟩ := g1
    cases (et : t1 = 0)
    cases en
    have z := all2_cons hh
    clear hh
    obtain ⟨e1, h, rfl, g1, hh⟩ := z
    rcases e1 with ⟨t1, n1, M_codeHalf⟩ | ⟨ci, fs⟩
    rotate_left
    · exact g1.elim
    obtain ⟨et, en, b_M_codeHalf⟩ := g1
    cases (et : t1 = 0)
    cases en
    have z := all2_cons hh
    clear hh
    obtain ⟨e1, h, rfl, g1, hh⟩ := z
    rcases e1 with ⟨t1, n1, M_codeTo⟩ | ⟨ci, fs⟩
    rotate_left
    · exact g1.elim
    obtain ⟨et, en, b_M_codeTo⟩ := g1
    cases (et : t1 = 0)
    cases en
    cases h with
    | cons _ _ => exact hh.elim
    | nil =>
      rw [← e_M_taped] at hP
      exact c_nlawR hP

def nd_sheet (a s : Int32) : Prop := (1 ≤ a ∧ a ≤ 60) ∧ a ≤ s
set_option maxRecDepth 100000 in
theorem c_nsheetC {l : Launch} {HS_kept HS_trial HS_clerk HS_crew HS_riddles HS_postReader HS_lawReader HS_seen HS_rules HS_spareRules : List (Option Nat)} {HS_wasKept Tape_size SR_end SR_at SR_ahead SR_fault SR_size Rep_toldMints Rep_walls Rep_stamps Now_told Now_walled Now_day Now_drawState : Int32} {Tape_bytes SR_mint SR_grains Rep_mintX Rep_mintY Rep_wall Rep_mintOf Rep_grainsOf Now_place Now_paste Now_letter Now_used : Nat → Int32}  {a : Int32} (hN : ¬ nd_sheet a Tape_size) : MetP l 102 yX11_sheet cX11_sheet 3 (some .int) 0 0 [.inr (some (.inl 0)), .inl a] [.inr (10, [.inr (some (.inl 1)), .inr (some (.inl 6)), .inr (some (.inl 12)), .inr (some (.inr HS_kept)), .inr (some (.inr HS_trial)), .inr (some (.inr HS_clerk)), .inr (some (.inr HS_crew)), .inr (some (.inr HS_riddles)), .inr (some (.inl 3)), .inr (some (.inr HS_postReader)), .inr (some (.inr HS_lawReader)), .inr (some (.inr HS_seen)), .inr (some (.inr HS_rules)), .inr (some (.inr HS_spareRules)), .inl HS_wasKept]), .inr (9, [.inr (some (.inl 2)), .inl Tape_size]), .inl (0, 260, Tape_bytes), .inr (8, [.inr (some (.inl 2)), .inl SR_end, .inl SR_at, .inl SR_ahead, .inl SR_fault, .inr (some (.inl 4)), .inr (some (.inl 5)), .inl SR_size]), .inl (0, 48, SR_mint), .inl (0, 48, SR_grains), .inr (6, [.inr (some (.inl 7)), .inr (some (.inl 8)), .inr (some (.inl 9)), .inr (some (.inl 10)), .inr (some (.inl 11)), .inl Rep_toldMints, .inl Rep_walls, .inl Rep_stamps]), .inl (0, 8, Rep_mintX), .inl (0, 8, Rep_mintY), .inl (2, 384, Rep_wall), .inl (0, 48, Rep_mintOf), .inl (0, 48, Rep_grainsOf), .inr (4, [.inr (some (.inl 13)), .inr (some (.inl 14)), .inr (some (.inl 15)), .inr (some (.inl 16)), .inl Now_told, .inl Now_walled, .inl Now_day, .inl Now_drawState]), .inl (0, 8, Now_place), .inl (0, 8, Now_paste), .inl (0, 48, Now_letter), .inl (0, 48, Now_used)] (fun r h' => r = some (.inl (-1)) ∧ h' = [.inr (10, [.inr (some (.inl 1)), .inr (some (.inl 6)), .inr (some (.inl 12)), .inr (some (.inr HS_kept)), .inr (some (.inr HS_trial)), .inr (some (.inr HS_clerk)), .inr (some (.inr HS_crew)), .inr (some (.inr HS_riddles)), .inr (some (.inl 3)), .inr (some (.inr HS_postReader)), .inr (some (.inr HS_lawReader)), .inr (some (.inr HS_seen)), .inr (some (.inr HS_rules)), .inr (some (.inr HS_spareRules)), .inl HS_wasKept]), .inr (9, [.inr (some (.inl 2)), .inl Tape_size]), .inl (0, 260, Tape_bytes), .inr (8, [.inr (some (.inl 2)), .inl SR_end, .inl SR_at, .inl SR_ahead, .inl SR_fault, .inr (some (.inl 4)), .inr (some (.inl 5)), .inl SR_size]), .inl (0, 48, SR_mint), .inl (0, 48, SR_grains), .inr (6, [.inr (some (.inl 7)), .inr (some (.inl 8)), .inr (some (.inl 9)), .inr (some (.inl 10)), .inr (some (.inl 11)), .inl Rep_toldMints, .inl Rep_walls, .inl Rep_stamps]), .inl (0, 8, Rep_mintX), .inl (0, 8, Rep_mintY), .inl (2, 384, Rep_wall), .inl (0, 48, Rep_mintOf), .inl (0, 48, Rep_grainsOf), .inr (4, [.inr (some (.inl 13)), .inr (some (.inl 14)), .inr (some (.inl 15)), .inr (some (.inl 16)), .inl Now_told, .inl Now_walled, .inl Now_day, .inl Now_drawState]), .inl (0, 8, Now_place), .inl (0, 8, Now_paste), .inl (0, 48, Now_letter), .inl (0, 48, Now_used)]) := by
  refine m_X11_sheet  (Nat.le_of_ble_eq_true rfl) ?_ 
  refine call0 (c_canGive) rfl rfl ?_
  rintro r h' ⟨rfl, rfl⟩
  exact br_b (fun _ => ⟨rfl, rfl⟩) (fun g => absurd ⟨g.1, g.2⟩ hN)
def HI_sheetC : List AC := [.inr (10, [.inr (.inr (some (.inl 1))), .inr (.inr (some (.inl 6))), .inr (.inr (some (.inl 12))), .inr (.inr (some (.inr 0))), .inr (.inr (some (.inr 1))), .inr (.inr (some (.inr 2))), .inr (.inr (some (.inr 3))), .inr (.inr (some (.inr 4))), .inr (.inr (some (.inl 3))), .inr (.inr (some (.inr 5))), .inr (.inr (some (.inr 6))), .inr (.inr (some (.inr 7))), .inr (.inr (some (.inr 8))), .inr (.inr (some (.inr 9))), .inr (.inr (some (.inr 201)))]), .inr (9, [.inr (.inr (some (.inl 2))), .inr (.inr (some (.inr 202)))]), .inl (1000, 260, 0, 255), .inr (8, [.inr (.inr (some (.inl 2))), .inl (-2147483648, 2147483647), .inl (-2147483648, 2147483647), .inl (-2147483648, 2147483647), .inl (-2147483648, 2147483647), .inr (.inr (some (.inl 4))), .inr (.inr (some (.inl 5))), .inl (0, 48)]), .inl (0, 48, -2147483648, 2147483647), .inl (0, 48, -2147483648, 2147483647), .inr (6, [.inr (.inr (some (.inl 7))), .inr (.inr (some (.inl 8))), .inr (.inr (some (.inl 9))), .inr (.inr (some (.inl 10))), .inr (.inr (some (.inl 11))), .inr (.inr (some (.inr 203))), .inl (-2147483648, 2147483647), .inr (.inr (some (.inr 204)))]), .inl (1008, 8, -2147483648, 2147483647), .inl (1012, 8, -2147483648, 2147483647), .inl (1054, 384, 0, 1), .inl (1020, 48, -2147483648, 2147483647), .inl (1024, 48, -2147483648, 2147483647), .inr (4, [.inr (.inr (some (.inl 13))), .inr (.inr (some (.inl 14))), .inr (.inr (some (.inl 15))), .inr (.inr (some (.inl 16))), .inr (.inr (some (.inr 206))), .inl (-2147483648, 2147483647), .inl (-2147483648, 2147483647), .inl (-2147483648, 2147483647)]), .inl (0, 8, -2147483648, 2147483647), .inl (0, 8, -2147483648, 2147483647), .inl (0, 48, -2147483648, 2147483647), .inl (0, 48, -2147483648, 2147483647)]
set_option maxRecDepth 100000 in
theorem i_nsheetC {l : Launch} {a : Int32} : conOkI (MetP l 102 yX11_sheet cX11_sheet 3 (some .int) 0 0) [a] (-1) HI_sheetC (fun τ => ¬ nd_sheet a (decA (τ 202) 0)) := by
  intro τ hΦ hP h hh
  have hP : ¬ nd_sheet a (decA (τ 202) 0) := hP
  have z := all2_cons hh
  clear hh
  obtain ⟨e0, h, rfl, g0, hh⟩ := z
  rcases e0 with ⟨t0, n0, f0⟩ | ⟨ci, fs⟩
  · exact g0.elim
  obtain ⟨rfl, gf⟩ := g0
  have z := all2_cons gf
  clear gf
  obtain ⟨v0, fs, rfl, q0, gf⟩ := z
  cases (q0 : v0 = .inr (some (.inl 1)))
  have z := all2_cons gf
  clear gf
  obtain ⟨v0, fs, rfl, q0, gf⟩ := z
  cases (q0 : v0 = .inr (some (.inl 6)))
  have z := all2_cons gf
  clear gf
  obtain ⟨v0, fs, rfl, q0, gf⟩ := z
  cases (q0 : v0 = .inr (some (.inl 12)))
  have z := all2_cons gf
  clear gf
  obtain ⟨v0, fs, rfl, q0, gf⟩ := z
  cases gT_r (τ := τ) (t := 0) (v := v0) rfl q0
  have z := all2_cons gf
  clear gf
  obtain ⟨v0, fs, rfl, q0, gf⟩ := z
  cases gT_r (τ := τ) (t := 1) (v := v0) rfl q0
  have z := all2_cons gf
  clear gf
  obtain ⟨v0, fs, rfl, q0, gf⟩ := z
  cases gT_r (τ := τ) (t := 2) (v := v0) rfl q0
  have z := all2_cons gf
  clear gf
  obtain ⟨v0, fs, rfl, q0, gf⟩ := z
  cases gT_r (τ := τ) (t := 3) (v := v0) rfl q0
  have z := all2_cons gf
  clear gf
  obtain ⟨v0, fs, rfl, q0, gf⟩ := z
  cases gT_r (τ := τ) (t := 4) (v := v0) rfl q0
  have z := all2_cons gf
  clear gf
  obtain ⟨v0, fs, rfl, q0, gf⟩ := z
  cases (q0 : v0 = .inr (some (.inl 3)))
  have z := all2_cons gf
  clear gf
  obtain ⟨v0, fs, rfl, q0, gf⟩ := z
  cases gT_r (τ := τ) (t := 5) (v := v0) rfl q0
  have z := all2_cons gf
  clear gf
  obtain ⟨v0, fs, rfl, q0, gf⟩ := z
  cases gT_r (τ := τ) (t := 6) (v := v0) rfl q0
  have z := all2_cons gf
  clear gf
  obtain ⟨v0, fs, rfl, q0, gf⟩ := z
  cases gT_r (τ := τ) (t := 7) (v := v0) rfl q0
  have z := all2_cons gf
  clear gf
  obtain ⟨v0, fs, rfl, q0, gf⟩ := z
  cases gT_r (τ := τ) (t := 8) (v := v0) rfl q0
  have z := all2_cons gf
  clear gf
  obtain ⟨v0, fs, rfl, q0, gf⟩ := z
  cases gT_r (τ := τ) (t := 9) (v := v0) rfl q0
  have z := all2_cons gf
  clear gf
  obtain ⟨v0, fs, rfl, q0, gf⟩ := z
  obtain ⟨HS_wasKept, rfl, e_HS_wasKept, b_HS_wasKept⟩ := gT_x (τ := τ) (t := 201) (v := v0) rfl q0
  cases fs with
  | cons _ _ => exact gf.elim
  | nil =>
    have z := all2_cons hh
    clear hh
    obtain ⟨e0, h, rfl, g0, hh⟩ := z
    rcases e0 with ⟨t0, n0, f0⟩ | ⟨ci, fs⟩
    · exact g0.elim
    obtain ⟨rfl, gf⟩ := g0
    have z := all2_cons gf
    clear gf
    obtain ⟨v0, fs, rfl, q0, gf⟩ := z
    cases (q0 : v0 = .inr (some (.inl 2)))
    have z := all2_cons gf
    clear gf
    obtain ⟨v0, fs, rfl, q0, gf⟩ := z
    obtain ⟨Tape_size, rfl, e_Tape_size, b_Tape_size⟩ := gT_x (τ := τ) (t := 202) (v := v0) rfl q0
    cases fs with
    | cons _ _ => exact gf.elim
    | nil =>
      have z := all2_cons hh
      clear hh
      obtain ⟨e1, h, rfl, g1, hh⟩ := z
      rcases e1 with ⟨t1, n1, Tape_bytes⟩ | ⟨ci, fs⟩
      rotate_left
      · exact g1.elim
      obtain ⟨et, en, b_Tape_bytes⟩ := g1
      cases (et : t1 = 0)
      cases en
      have z := all2_cons hh
      clear hh
      obtain ⟨e0, h, rfl, g0, hh⟩ := z
      rcases e0 with ⟨t0, n0, f0⟩ | ⟨ci, fs⟩
      · exact g0.elim
      obtain ⟨rfl, gf⟩ := g0
      have z := all2_cons gf
      clear gf
      obtain ⟨v0, fs, rfl, q0, gf⟩ := z
      cases (q0 : v0 = .inr (some (.inl 2)))
      have z := all2_cons gf
      clear gf
      obtain ⟨v0, fs, rfl, q0, gf⟩ := z
      obtain ⟨SR_end, rfl, b_SR_end⟩ := q0
      have z := all2_cons gf
      clear gf
      obtain ⟨v0, fs, rfl, q0, gf⟩ := z
      obtain ⟨SR_at, rfl, b_SR_at⟩ := q0
      have z := all2_cons gf
      clear gf
      obtain ⟨v0, fs, rfl, q0, gf⟩ := z
      obtain ⟨SR_ahead, rfl, b_SR_ahead⟩ := q0
      have z := all2_cons gf
      clear gf
      obtain ⟨v0, fs, rfl, q0, gf⟩ := z
      obtain ⟨SR_fault, rfl, b_SR_fault⟩ := q0
      have z := all2_cons gf
      clear gf
      obtain ⟨v0, fs, rfl, q0, gf⟩ := z
      cases (q0 : v0 = .inr (some (.inl 4)))
      have z := all2_cons gf
      clear gf
      obtain ⟨v0, fs, rfl, q0, gf⟩ := z
      cases (q0 : v0 = .inr (some (.inl 5)))
      have z := all2_cons gf
      clear gf
      obtain ⟨v0, fs, rfl, q0, gf⟩ := z
      obtain ⟨SR_size, rfl, b_SR_size⟩ := q0
      cases fs with
      | cons _ _ => exact gf.elim
      | nil =>
        have z := all2_cons hh
        clear hh
        obtain ⟨e1, h, rfl, g1, hh⟩ := z
        rcases e1 with ⟨t1, n1, SR_mint⟩ | ⟨ci, fs⟩
        rotate_left
        · exact g1.elim
        obtain ⟨et, en, b_SR_mint⟩ := g1
        cases (et : t1 = 0)
        cases en
        have z := all2_cons hh
        clear hh
        obtain ⟨e1, h, rfl, g1, hh⟩ := z
        rcases e1 with ⟨t1, n1, SR_grains⟩ | ⟨ci, fs⟩
        rotate_left
        · exact g1.elim
        obtain ⟨et, en, b_SR_grains⟩ := g1
        cases (et : t1 = 0)
        cases en
        have z := all2_cons hh
        clear hh
        obtain ⟨e0, h, rfl, g0, hh⟩ := z
        rcases e0 with ⟨t0, n0, f0⟩ | ⟨ci, fs⟩
        · exact g0.elim
        obtain ⟨rfl, gf⟩ := g0
        have z := all2_cons gf
        clear gf
        obtain ⟨v0, fs, rfl, q0, gf⟩ := z
        cases (q0 : v0 = .inr (some (.inl 7)))
        have z := all2_cons gf
        clear gf
        obtain ⟨v0, fs, rfl, q0, gf⟩ := z
        cases (q0 : v0 = .inr (some (.inl 8)))
        have z := all2_cons gf
        clear gf
        obtain ⟨v0, fs, rfl, q0, gf⟩ := z
        cases (q0 : v0 = .inr (some (.inl 9)))
        have z := all2_cons gf
        clear gf
        obtain ⟨v0, fs, rfl, q0, gf⟩ := z
        cases (q0 : v0 = .inr (some (.inl 10)))
        have z := all2_cons gf
        clear gf
        obtain ⟨v0, fs, rfl, q0, gf⟩ := z
        cases (q0 : v0 = .inr (some (.inl 11)))
        have z := all2_cons gf
        clear gf
        obtain ⟨v0, fs, rfl, q0, gf⟩ := z
        obtain ⟨Rep_toldMints, rfl, e_Rep_toldMints, b_Rep_toldMints⟩ := gT_x (τ := τ) (t := 203) (v := v0) rfl q0
        have z := all2_cons gf
        clear gf
        obtain ⟨v0, fs, rfl, q0, gf⟩ := z
        obtain ⟨Rep_walls, rfl, b_Rep_walls⟩ := q0
        have z := all2_cons gf
        clear gf
        obtain ⟨v0, fs, rfl, q0, gf⟩ := z
        obtain ⟨Rep_stamps, rfl, e_Rep_stamps, b_Rep_stamps⟩ := gT_x (τ := τ) (t := 204) (v := v0) rfl q0
        cases fs with
        | cons _ _ => exact gf.elim
        | nil =>
          have z := all2_cons hh
          clear hh
          obtain ⟨e1, h, rfl, g1, hh⟩ := z
          rcases e1 with ⟨t1, n1, Rep_mintX⟩ | ⟨ci, fs⟩
          rotate_left
          · exact g1.elim
          obtain ⟨et, en, b_Rep_mintX⟩ := g1
          cases (et : t1 = 0)
          cases en
          have z := all2_cons hh
          clear hh
          obtain ⟨e1, h, rfl, g1, hh⟩ := z
          rcases e1 with ⟨t1, n1, Rep_mintY⟩ | ⟨ci, fs⟩
          rotate_left
          · exact g1.elim
          obtain ⟨et, en, b_Rep_mintY⟩ := g1
          cases (et : t1 = 0)
          cases en
          have z := all2_cons hh
          clear hh
          obtain ⟨e1, h, rfl, g1, hh⟩ := z
          rcases e1 with ⟨t1, n1, Rep_wall⟩ | ⟨ci, fs⟩
          rotate_left
          · exact g1.elim
          obtain ⟨et, en, b_Rep_wall⟩ := g1
          cases (et : t1 = 2)
          cases en
          have z := all2_cons hh
          clear hh
          obtain ⟨e1, h, rfl, g1, hh⟩ := z
          rcases e1 with ⟨t1, n1, Rep_mintOf⟩ | ⟨ci, fs⟩
          rotate_left
          · exact g1.elim
          obtain ⟨et, en, b_Rep_mintOf⟩ := g1
          cases (et : t1 = 0)
          cases en
          have z := all2_cons hh
          clear hh
          obtain ⟨e1, h, rfl, g1, hh⟩ := z
          rcases e1 with ⟨t1, n1, Rep_grainsOf⟩ | ⟨ci, fs⟩
          rotate_left
          · exact g1.elim
          obtain ⟨et, en, b_Rep_grainsOf⟩ := g1
          cases (et : t1 = 0)
          cases en
          have z := all2_cons hh
          clear hh
          obtain ⟨e0, h, rfl, g0, hh⟩ := z
          rcases e0 with ⟨t0, n0, f0⟩ | ⟨ci, fs⟩
          · exact g0.elim
          obtain ⟨rfl, gf⟩ := g0
          have z := all2_cons gf
          clear gf
          obtain ⟨v0, fs, rfl, q0, gf⟩ := z
          cases (q0 : v0 = .inr (some (.inl 13)))
          have z := all2_cons gf
          clear gf
          obtain ⟨v0, fs, rfl, q0, gf⟩ := z
          cases (q0 : v0 = .inr (some (.inl 14)))
          have z := all2_cons gf
          clear gf
          obtain ⟨v0, fs, rfl, q0, gf⟩ := z
          cases (q0 : v0 = .inr (some (.inl 15)))
          have z := all2_cons gf
          clear gf
          obtain ⟨v0, fs, rfl, q0, gf⟩ := z
          cases (q0 : v0 = .inr (some (.inl 16)))
          have z := all2_cons gf
          clear gf
          obtain ⟨v0, fs, rfl, q0, gf⟩ := z
          obtain ⟨Now_told, rfl, e_Now_told, b_Now_told⟩ := gT_x (τ := τ) (t := 206) (v := v0) rfl q0
          have z := all2_cons gf
          clear gf
          obtain ⟨v0, fs, rfl, q0, gf⟩ := z
          obtain ⟨Now_walled, rfl, b_Now_walled⟩ := q0
          have z := all2_cons gf
          clear gf
          obtain ⟨v0, fs, rfl, q0, gf⟩ := z
          obtain ⟨Now_day, rfl, b_Now_day⟩ := q0
          have z := all2_cons gf
          clear gf
          obtain ⟨v0, fs, rfl, q0, gf⟩ := z
          obtain ⟨Now_drawState, rfl, b_Now_drawState⟩ := q0
          cases fs with
          | cons _ _ => exact gf.elim
          | nil =>
            have z := all2_cons hh
            clear hh
            obtain ⟨e1, h, rfl, g1, hh⟩ := z
            rcases e1 with ⟨t1, n1, Now_place⟩ | ⟨ci, fs⟩
            rotate_left
            · exact g1.elim
            obtain ⟨et, en, b_Now_place⟩ := g1
            cases (et : t1 = 0)
            cases en
            have z := all2_cons hh
            clear hh
            obtain ⟨e1, h, rfl, g1, hh⟩ := z
            rcases e1 with ⟨t1, n1, Now_paste⟩ | ⟨ci, fs⟩
            rotate_left
            · exact g1.elim
            obtain ⟨et, en, b_Now_paste⟩ := g1
            cases (et : t1 = 0)
            cases en
            have z := all2_cons hh
            clear hh
            obtain ⟨e1, h, rfl, g1, hh⟩ := z
            rcases e1 with ⟨t1, n1, Now_letter⟩ | ⟨ci, fs⟩
            rotate_left
            · exact g1.elim
            obtain ⟨et, en, b_Now_letter⟩ := g1
            cases (et : t1 = 0)
            cases en
            have z := all2_cons hh
            clear hh
            obtain ⟨e1, h, rfl, g1, hh⟩ := z
            rcases e1 with ⟨t1, n1, Now_used⟩ | ⟨ci, fs⟩
            rotate_left
            · exact g1.elim
            obtain ⟨et, en, b_Now_used⟩ := g1
            cases (et : t1 = 0)
            cases en
            cases h with
            | cons _ _ => exact hh.elim
            | nil =>
              rw [← e_Tape_size] at hP
              exact c_nsheetC hP

set_option maxRecDepth 100000 in
theorem c_nsheetR {l : Launch} {M_aside M_kept M_mintAt M_isWall M_wasWall M_said M_waitsAt M_saidLetter M_saidFrom M_saidHalf M_saidTo M_codes M_clauseOf M_codeFrom M_codeHalf M_codeTo M_stack M_facts M_usesNow M_wasAt M_someOf M_fewestFor M_getsOf : List (Option Nat)} {M_stampMany M_taped M_place0 M_length0 M_fault M_number0 M_open M_codeMany M_waiting M_saidMany M_clauses M_newMany M_rounds M_stampFrom M_stampTimes M_lines M_spot0 M_pullAcross M_pullAlong M_stepsNow M_fallenNow M_isKept : Int32} {M_now M_mintOf M_wholeOf M_tape M_newStamps M_roundFrom M_roundAt M_roundTimes : Nat → Int32}  {a : Int32} (hN : ¬ nd_sheet a M_taped) : MetP l 3 yX12_sheet cX12_sheet 4 (some .int) 0 0 [.inr (some (.inl 0)), .inl a] [.inr (11, [.inr (some (.inl 1)), .inr (some (.inr M_aside)), .inr (some (.inr M_kept)), .inr (some (.inr M_mintAt)), .inr (some (.inl 2)), .inr (some (.inl 3)), .inr (some (.inr M_isWall)), .inr (some (.inr M_wasWall)), .inl M_stampMany, .inr (some (.inl 4)), .inl M_taped, .inl M_place0, .inl M_length0, .inl M_fault, .inl M_number0, .inl M_open, .inl M_codeMany, .inl M_waiting, .inl M_saidMany, .inl M_clauses, .inr (some (.inr M_said)), .inr (some (.inr M_waitsAt)), .inr (some (.inr M_saidLetter)), .inr (some (.inr M_saidFrom)), .inr (some (.inr M_saidHalf)), .inr (some (.inr M_saidTo)), .inr (some (.inr M_codes)), .inr (some (.inr M_clauseOf)), .inr (some (.inr M_codeFrom)), .inr (some (.inr M_codeHalf)), .inr (some (.inr M_codeTo)), .inr (some (.inr M_stack)), .inr (some (.inr M_facts)), .inr (some (.inl 5)), .inr (some (.inl 6)), .inr (some (.inl 7)), .inr (some (.inl 8)), .inl M_newMany, .inl M_rounds, .inl M_stampFrom, .inl M_stampTimes, .inl M_lines, .inl M_spot0, .inl M_pullAcross, .inl M_pullAlong, .inl M_stepsNow, .inl M_fallenNow, .inr (some (.inr M_usesNow)), .inr (some (.inr M_wasAt)), .inr (some (.inr M_someOf)), .inr (some (.inr M_fewestFor)), .inr (some (.inr M_getsOf)), .inl M_isKept]), .inl (0, 130, M_now), .inl (0, 48, M_mintOf), .inl (0, 48, M_wholeOf), .inl (1, 260, M_tape), .inl (0, 48, M_newStamps), .inl (0, 2, M_roundFrom), .inl (0, 2, M_roundAt), .inl (0, 2, M_roundTimes)] (fun r h' => r = some (.inl (-1)) ∧ h' = [.inr (11, [.inr (some (.inl 1)), .inr (some (.inr M_aside)), .inr (some (.inr M_kept)), .inr (some (.inr M_mintAt)), .inr (some (.inl 2)), .inr (some (.inl 3)), .inr (some (.inr M_isWall)), .inr (some (.inr M_wasWall)), .inl M_stampMany, .inr (some (.inl 4)), .inl M_taped, .inl M_place0, .inl M_length0, .inl M_fault, .inl M_number0, .inl M_open, .inl M_codeMany, .inl M_waiting, .inl M_saidMany, .inl M_clauses, .inr (some (.inr M_said)), .inr (some (.inr M_waitsAt)), .inr (some (.inr M_saidLetter)), .inr (some (.inr M_saidFrom)), .inr (some (.inr M_saidHalf)), .inr (some (.inr M_saidTo)), .inr (some (.inr M_codes)), .inr (some (.inr M_clauseOf)), .inr (some (.inr M_codeFrom)), .inr (some (.inr M_codeHalf)), .inr (some (.inr M_codeTo)), .inr (some (.inr M_stack)), .inr (some (.inr M_facts)), .inr (some (.inl 5)), .inr (some (.inl 6)), .inr (some (.inl 7)), .inr (some (.inl 8)), .inl M_newMany, .inl M_rounds, .inl M_stampFrom, .inl M_stampTimes, .inl M_lines, .inl M_spot0, .inl M_pullAcross, .inl M_pullAlong, .inl M_stepsNow, .inl M_fallenNow, .inr (some (.inr M_usesNow)), .inr (some (.inr M_wasAt)), .inr (some (.inr M_someOf)), .inr (some (.inr M_fewestFor)), .inr (some (.inr M_getsOf)), .inl M_isKept]), .inl (0, 130, M_now), .inl (0, 48, M_mintOf), .inl (0, 48, M_wholeOf), .inl (1, 260, M_tape), .inl (0, 48, M_newStamps), .inl (0, 2, M_roundFrom), .inl (0, 2, M_roundAt), .inl (0, 2, M_roundTimes)]) := by
  refine m_X12_sheet (fun _ _ _ _ => False) (fun _ _ _ _ => False) (Nat.le_of_ble_eq_true rfl) ?_ (fun _ _ _ _ z => z.elim) (fun _ _ _ _ z => z.elim)
  refine call0 (c_in) rfl rfl ?_
  rintro r h' ⟨rfl, rfl⟩
  refine br_b (fun _ => ⟨rfl, rfl⟩) (fun g1 => ?_)
  exact And.intro (fun g => absurd ⟨g1, g⟩ hN) (fun _ => ⟨rfl, rfl⟩)
def HI_sheetR : List AC := [.inr (11, [.inr (.inr (some (.inl 1))), .inr (.inr (some (.inr 0))), .inr (.inr (some (.inr 1))), .inr (.inr (some (.inr 2))), .inr (.inr (some (.inl 2))), .inr (.inr (some (.inl 3))), .inr (.inr (some (.inr 3))), .inr (.inr (some (.inr 4))), .inr (.inr (some (.inr 205))), .inr (.inr (some (.inl 4))), .inr (.inr (some (.inr 202))), .inl (0, 240), .inl (0, 240), .inl (-2147483648, 2147483647), .inl (-2147483648, 2147483647), .inl (-2147483648, 2147483647), .inl (0, 260), .inl (0, 260), .inl (0, 16), .inr (.inr (some (.inr 200))), .inr (.inr (some (.inr 5))), .inr (.inr (some (.inr 6))), .inr (.inr (some (.inr 7))), .inr (.inr (some (.inr 8))), .inr (.inr (some (.inr 9))), .inr (.inr (some (.inr 10))), .inr (.inr (some (.inr 11))), .inr (.inr (some (.inr 12))), .inr (.inr (some (.inr 13))), .inr (.inr (some (.inr 14))), .inr (.inr (some (.inr 15))), .inr (.inr (some (.inr 16))), .inr (.inr (some (.inr 17))), .inr (.inr (some (.inl 5))), .inr (.inr (some (.inl 6))), .inr (.inr (some (.inl 7))), .inr (.inr (some (.inl 8))), .inl (-2147483648, 2147483647), .inl (-2147483648, 2147483647), .inl (-2147483648, 2147483647), .inl (-2147483648, 2147483647), .inl (-2147483648, 2147483647), .inl (-2147483648, 2147483647), .inl (-2147483648, 2147483647), .inl (-2147483648, 2147483647), .inl (-2147483648, 2147483647), .inl (-2147483648, 2147483647), .inr (.inr (some (.inr 18))), .inr (.inr (some (.inr 19))), .inr (.inr (some (.inr 20))), .inr (.inr (some (.inr 21))), .inr (.inr (some (.inr 22))), .inr (.inr (some (.inr 201)))]), .inl (600, 130, 0, 383), .inl (1028, 48, 0, 7), .inl (1032, 48, 0, 2), .inl (1005, 260, -128, 127), .inl (0, 48, 0, 23), .inl (0, 2, -2147483648, 2147483647), .inl (0, 2, -2147483648, 2147483647), .inl (0, 2, -2147483648, 2147483647)]
set_option maxRecDepth 100000 in
theorem i_nsheetR {l : Launch} {a : Int32} : conOkI (MetP l 3 yX12_sheet cX12_sheet 4 (some .int) 0 0) [a] (-1) HI_sheetR (fun τ => ¬ nd_sheet a (decA (τ 202) 0)) := by
  intro τ hΦ hP h hh
  have hP : ¬ nd_sheet a (decA (τ 202) 0) := hP
  have z := all2_cons hh
  clear hh
  obtain ⟨e0, h, rfl, g0, hh⟩ := z
  rcases e0 with ⟨t0, n0, f0⟩ | ⟨ci, fs⟩
  · exact g0.elim
  obtain ⟨rfl, gf⟩ := g0
  have z := all2_cons gf
  clear gf
  obtain ⟨v0, fs, rfl, q0, gf⟩ := z
  cases (q0 : v0 = .inr (some (.inl 1)))
  have z := all2_cons gf
  clear gf
  obtain ⟨v0, fs, rfl, q0, gf⟩ := z
  cases gT_r (τ := τ) (t := 0) (v := v0) rfl q0
  have z := all2_cons gf
  clear gf
  obtain ⟨v0, fs, rfl, q0, gf⟩ := z
  cases gT_r (τ := τ) (t := 1) (v := v0) rfl q0
  have z := all2_cons gf
  clear gf
  obtain ⟨v0, fs, rfl, q0, gf⟩ := z
  cases gT_r (τ := τ) (t := 2) (v := v0) rfl q0
  have z := all2_cons gf
  clear gf
  obtain ⟨v0, fs, rfl, q0, gf⟩ := z
  cases (q0 : v0 = .inr (some (.inl 2)))
  have z := all2_cons gf
  clear gf
  obtain ⟨v0, fs, rfl, q0, gf⟩ := z
  cases (q0 : v0 = .inr (some (.inl 3)))
  have z := all2_cons gf
  clear gf
  obtain ⟨v0, fs, rfl, q0, gf⟩ := z
  cases gT_r (τ := τ) (t := 3) (v := v0) rfl q0
  have z := all2_cons gf
  clear gf
  obtain ⟨v0, fs, rfl, q0, gf⟩ := z
  cases gT_r (τ := τ) (t := 4) (v := v0) rfl q0
  have z := all2_cons gf
  clear gf
  obtain ⟨v0, fs, rfl, q0, gf⟩ := z
  obtain ⟨M_stampMany, rfl, e_M_stampMany, b_M_stampMany⟩ := gT_x (τ := τ) (t := 205) (v := v0) rfl q0
  have z := all2_cons gf
  clear gf
  obtain ⟨v0, fs, rfl, q0, gf⟩ := z
  cases (q0 : v0 = .inr (some (.inl 4)))
  have z := all2_cons gf
  clear gf
  obtain ⟨v0, fs, rfl, q0, gf⟩ := z
  obtain ⟨M_taped, rfl, e_M_taped, b_M_taped⟩ := gT_x (τ := τ) (t := 202) (v := v0) rfl q0
  have z := all2_cons gf
  clear gf
  obtain ⟨v0, fs, rfl, q0, gf⟩ := z
  obtain ⟨M_place0, rfl, b_M_place0⟩ := q0
  have z := all2_cons gf
  clear gf
  obtain ⟨v0, fs, rfl, q0, gf⟩ := z
  obtain ⟨M_length0, rfl, b_M_length0⟩ := q0
  have z := all2_cons gf
  clear gf
  obtain ⟨v0, fs, rfl, q0, gf⟩ := z
  obtain ⟨M_fault, rfl, b_M_fault⟩ := q0
  have z := all2_cons gf
  clear gf
  obtain ⟨v0, fs, rfl, q0, gf⟩ := z
  obtain ⟨M_number0, rfl, b_M_number0⟩ := q0
  have z := all2_cons gf
  clear gf
  obtain ⟨v0, fs, rfl, q0, gf⟩ := z
  obtain ⟨M_open, rfl, b_M_open⟩ := q0
  have z := all2_cons gf
  clear gf
  obtain ⟨v0, fs, rfl, q0, gf⟩ := z
  obtain ⟨M_codeMany, rfl, b_M_codeMany⟩ := q0
  have z := all2_cons gf
  clear gf
  obtain ⟨v0, fs, rfl, q0, gf⟩ := z
  obtain ⟨M_waiting, rfl, b_M_waiting⟩ := q0
  have z := all2_cons gf
  clear gf
  obtain ⟨v0, fs, rfl, q0, gf⟩ := z
  obtain ⟨M_saidMany, rfl, b_M_saidMany⟩ := q0
  have z := all2_cons gf
  clear gf
  obtain ⟨v0, fs, rfl, q0, gf⟩ := z
  obtain ⟨M_clauses, rfl, e_M_clauses, b_M_clauses⟩ := gT_x (τ := τ) (t := 200) (v := v0) rfl q0
  have z := all2_cons gf
  clear gf
  obtain ⟨v0, fs, rfl, q0, gf⟩ := z
  cases gT_r (τ := τ) (t := 5) (v := v0) rfl q0
  have z := all2_cons gf
  clear gf
  obtain ⟨v0, fs, rfl, q0, gf⟩ := z
  cases gT_r (τ := τ) (t := 6) (v := v0) rfl q0
  have z := all2_cons gf
  clear gf
  obtain ⟨v0, fs, rfl, q0, gf⟩ := z
  cases gT_r (τ := τ) (t := 7) (v := v0) rfl q0
  have z := all2_cons gf
  clear gf
  obtain ⟨v0, fs, rfl, q0, gf⟩ := z
  cases gT_r (τ := τ) (t := 8) (v := v0) rfl q0
  have z := all2_cons gf
  clear gf
  obtain ⟨v0, fs, rfl, q0, gf⟩ := z
  cases gT_r (τ := τ) (t := 9) (v := v0) rfl q0
  have z := all2_cons gf
  clear gf
  obtain ⟨v0, fs, rfl, q0, gf⟩ := z
  cases gT_r (τ := τ) (t := 10) (v := v0) rfl q0
  have z := all2_cons gf
  clear gf
  obtain ⟨v0, fs, rfl, q0, gf⟩ := z
  cases gT_r (τ := τ) (t := 11) (v := v0) rfl q0
  have z := all2_cons gf
  clear gf
  obtain ⟨v0, fs, rfl, q0, gf⟩ := z
  cases gT_r (τ := τ) (t := 12) (v := v0) rfl q0
  have z := all2_cons gf
  clear gf
  obtain ⟨v0, fs, rfl, q0, gf⟩ := z
  cases gT_r (τ := τ) (t := 13) (v := v0) rfl q0
  have z := all2_cons gf
  clear gf
  obtain ⟨v0, fs, rfl, q0, gf⟩ := z
  cases gT_r (τ := τ) (t := 14) (v := v0) rfl q0
  have z := all2_cons gf
  clear gf
  obtain ⟨v0, fs, rfl, q0, gf⟩ := z
  cases gT_r (τ := τ) (t := 15) (v := v0) rfl q0
  have z := all2_cons gf
  clear gf
  obtain ⟨v0, fs, rfl, q0, gf⟩ := z
  cases gT_r (τ := τ) (t := 16) (v := v0) rfl q0
  have z := all2_cons gf
  clear gf
  obtain ⟨v0, fs, rfl, q0, gf⟩ := z
  cases gT_r (τ := τ) (t := 17) (v := v0) rfl q0
  have z := all2_cons gf
  clear gf
  obtain ⟨v0, fs, rfl, q0, gf⟩ := z
  cases (q0 : v0 = .inr (some (.inl 5)))
  have z := all2_cons gf
  clear gf
  obtain ⟨v0, fs, rfl, q0, gf⟩ := z
  cases (q0 : v0 = .inr (some (.inl 6)))
  have z := all2_cons gf
  clear gf
  obtain ⟨v0, fs, rfl, q0, gf⟩ := z
  cases (q0 : v0 = .inr (some (.inl 7)))
  have z := all2_cons gf
  clear gf
  obtain ⟨v0, fs, rfl, q0, gf⟩ := z
  cases (q0 : v0 = .inr (some (.inl 8)))
  have z := all2_cons gf
  clear gf
  obtain ⟨v0, fs, rfl, q0, gf⟩ := z
  obtain ⟨M_newMany, rfl, b_M_newMany⟩ := q0
  have z := all2_cons gf
  clear gf
  obtain ⟨v0, fs, rfl, q0, gf⟩ := z
  obtain ⟨M_rounds, rfl, b_M_rounds⟩ := q0
  have z := all2_cons gf
  clear gf
  obtain ⟨v0, fs, rfl, q0, gf⟩ := z
  obtain ⟨M_stampFrom, rfl, b_M_stampFrom⟩ := q0
  have z := all2_cons gf
  clear gf
  obtain ⟨v0, fs, rfl, q0, gf⟩ := z
  obtain ⟨M_stampTimes, rfl, b_M_stampTimes⟩ := q0
  have z := all2_cons gf
  clear gf
  obtain ⟨v0, fs, rfl, q0, gf⟩ := z
  obtain ⟨M_lines, rfl, b_M_lines⟩ := q0
  have z := all2_cons gf
  clear gf
  obtain ⟨v0, fs, rfl, q0, gf⟩ := z
  obtain ⟨M_spot0, rfl, b_M_spot0⟩ := q0
  have z := all2_cons gf
  clear gf
  obtain ⟨v0, fs, rfl, q0, gf⟩ := z
  obtain ⟨M_pullAcross, rfl, b_M_pullAcross⟩ := q0
  have z := all2_cons gf
  clear gf
  obtain ⟨v0, fs, rfl, q0, gf⟩ := z
  obtain ⟨M_pullAlong, rfl, b_M_pullAlong⟩ := q0
  have z := all2_cons gf
  clear gf
  obtain ⟨v0, fs, rfl, q0, gf⟩ := z
  obtain ⟨M_stepsNow, rfl, b_M_stepsNow⟩ := q0
  have z := all2_cons gf
  clear gf
  obtain ⟨v0, fs, rfl, q0, gf⟩ := z
  obtain ⟨M_fallenNow, rfl, b_M_fallenNow⟩ := q0
  have z := all2_cons gf
  clear gf
  obtain ⟨v0, fs, rfl, q0, gf⟩ := z
  cases gT_r (τ := τ) (t := 18) (v := v0) rfl q0
  have z := all2_cons gf
  clear gf
  obtain ⟨v0, fs, rfl, q0, gf⟩ := z
  cases gT_r (τ := τ) (t := 19) (v := v0) rfl q0
  have z := all2_cons gf
  clear gf
  obtain ⟨v0, fs, rfl, q0, gf⟩ := z
  cases gT_r (τ := τ) (t := 20) (v := v0) rfl q0
  have z := all2_cons gf
  clear gf
  obtain ⟨v0, fs, rfl, q0, gf⟩ := z
  cases gT_r (τ := τ) (t := 21) (v := v0) rfl q0
  have z := all2_cons gf
  clear gf
  obtain ⟨v0, fs, rfl, q0, gf⟩ := z
  cases gT_r (τ := τ) (t := 22) (v := v0) rfl q0
  have z := all2_cons gf
  clear gf
  obtain ⟨v0, fs, rfl, q0, gf⟩ := z
  obtain ⟨M_isKept, rfl, e_M_isKept, b_M_isKept⟩ := gT_x (τ := τ) (t := 201) (v := v0) rfl q0
  cases fs with
  | cons _ _ => exact gf.elim
  | nil =>
    have z := all2_cons hh
    clear hh
    obtain ⟨e1, h, rfl, g1, hh⟩ := z
    rcases e1 with ⟨t1, n1, M_now⟩ | ⟨ci, fs⟩
    rotate_left
    · exact g1.elim
    obtain ⟨et, en, b_M_now⟩ := g1
    cases (et : t1 = 0)
    cases en
    have z := all2_cons hh
    clear hh
    obtain ⟨e1, h, rfl, g1, hh⟩ := z
    rcases e1 with ⟨t1, n1, M_mintOf⟩ | ⟨ci, fs⟩
    rotate_left
    · exact g1.elim
    obtain ⟨et, en, b_M_mintOf⟩ := g1
    cases (et : t1 = 0)
    cases en
    have z := all2_cons hh
    clear hh
    obtain ⟨e1, h, rfl, g1, hh⟩ := z
    rcases e1 with ⟨t1, n1, M_wholeOf⟩ | ⟨ci, fs⟩
    rotate_left
    · exact g1.elim
    obtain ⟨et, en, b_M_wholeOf⟩ := g1
    cases (et : t1 = 0)
    cases en
    have z := all2_cons hh
    clear hh
    obtain ⟨e1, h, rfl, g1, hh⟩ := z
    rcases e1 with ⟨t1, n1, M_tape⟩ | ⟨ci, fs⟩
    rotate_left
    · exact g1.elim
    obtain ⟨et, en, b_M_tape⟩ := g1
    cases (et : t1 = 1)
    cases en
    have z := all2_cons hh
    clear hh
    obtain ⟨e1, h, rfl, g1, hh⟩ := z
    rcases e1 with ⟨t1, n1, M_newStamps⟩ | ⟨ci, fs⟩
    rotate_left
    · exact g1.elim
    obtain ⟨et, en, b_M_newStamps⟩ := g1
    cases (et : t1 = 0)
    cases en
    have z := all2_cons hh
    clear hh
    obtain ⟨e1, h, rfl, g1, hh⟩ := z
    rcases e1 with ⟨t1, n1, M_roundFrom⟩ | ⟨ci, fs⟩
    rotate_left
    · exact g1.elim
    obtain ⟨et, en, b_M_roundFrom⟩ := g1
    cases (et : t1 = 0)
    cases en
    have z := all2_cons hh
    clear hh
    obtain ⟨e1, h, rfl, g1, hh⟩ := z
    rcases e1 with ⟨t1, n1, M_roundAt⟩ | ⟨ci, fs⟩
    rotate_left
    · exact g1.elim
    obtain ⟨et, en, b_M_roundAt⟩ := g1
    cases (et : t1 = 0)
    cases en
    have z := all2_cons hh
    clear hh
    obtain ⟨e1, h, rfl, g1, hh⟩ := z
    rcases e1 with ⟨t1, n1, M_roundTimes⟩ | ⟨ci, fs⟩
    rotate_left
    · exact g1.elim
    obtain ⟨et, en, b_M_roundTimes⟩ := g1
    cases (et : t1 = 0)
    cases en
    cases h with
    | cons _ _ => exact hh.elim
    | nil =>
      rw [← e_M_taped] at hP
      exact c_nsheetR hP

def nd_post (a s : Int32) : Prop := (1 ≤ a ∧ a ≤ 120) ∧ a ≤ s
set_option maxRecDepth 100000 in
theorem c_npostC {l : Launch} {HS_kept HS_trial HS_clerk HS_crew HS_riddles HS_sheetReader HS_lawReader HS_seen HS_rules HS_spareRules : List (Option Nat)} {HS_wasKept Tape_size PR_end PR_at PR_ahead PR_fault PR_lines PR_told PR_stamps Now_told Now_walled Now_day Now_drawState Rep_toldMints Rep_walls Rep_stamps : Int32} {Tape_bytes PR_sign PR_letter PR_number Now_place Now_paste Now_letter Now_used Rep_mintX Rep_mintY Rep_wall Rep_mintOf Rep_grainsOf : Nat → Int32}  {a : Int32} (hN : ¬ nd_post a Tape_size) : MetP l 6 yX11_post cX11_post 3 (some .int) 0 0 [.inr (some (.inl 0)), .inl a] [.inr (10, [.inr (some (.inl 1)), .inr (some (.inl 12)), .inr (some (.inl 7)), .inr (some (.inr HS_kept)), .inr (some (.inr HS_trial)), .inr (some (.inr HS_clerk)), .inr (some (.inr HS_crew)), .inr (some (.inr HS_riddles)), .inr (some (.inr HS_sheetReader)), .inr (some (.inl 3)), .inr (some (.inr HS_lawReader)), .inr (some (.inr HS_seen)), .inr (some (.inr HS_rules)), .inr (some (.inr HS_spareRules)), .inl HS_wasKept]), .inr (9, [.inr (some (.inl 2)), .inl Tape_size]), .inl (0, 260, Tape_bytes), .inr (5, [.inr (some (.inl 2)), .inl PR_end, .inl PR_at, .inl PR_ahead, .inl PR_fault, .inr (some (.inl 4)), .inr (some (.inl 5)), .inr (some (.inl 6)), .inl PR_lines, .inl PR_told, .inl PR_stamps]), .inl (0, 20, PR_sign), .inl (0, 20, PR_letter), .inl (0, 20, PR_number), .inr (4, [.inr (some (.inl 8)), .inr (some (.inl 9)), .inr (some (.inl 10)), .inr (some (.inl 11)), .inl Now_told, .inl Now_walled, .inl Now_day, .inl Now_drawState]), .inl (0, 8, Now_place), .inl (0, 8, Now_paste), .inl (0, 48, Now_letter), .inl (0, 48, Now_used), .inr (6, [.inr (some (.inl 13)), .inr (some (.inl 14)), .inr (some (.inl 15)), .inr (some (.inl 16)), .inr (some (.inl 17)), .inl Rep_toldMints, .inl Rep_walls, .inl Rep_stamps]), .inl (0, 8, Rep_mintX), .inl (0, 8, Rep_mintY), .inl (2, 384, Rep_wall), .inl (0, 48, Rep_mintOf), .inl (0, 48, Rep_grainsOf)] (fun r h' => r = some (.inl (-1)) ∧ h' = [.inr (10, [.inr (some (.inl 1)), .inr (some (.inl 12)), .inr (some (.inl 7)), .inr (some (.inr HS_kept)), .inr (some (.inr HS_trial)), .inr (some (.inr HS_clerk)), .inr (some (.inr HS_crew)), .inr (some (.inr HS_riddles)), .inr (some (.inr HS_sheetReader)), .inr (some (.inl 3)), .inr (some (.inr HS_lawReader)), .inr (some (.inr HS_seen)), .inr (some (.inr HS_rules)), .inr (some (.inr HS_spareRules)), .inl HS_wasKept]), .inr (9, [.inr (some (.inl 2)), .inl Tape_size]), .inl (0, 260, Tape_bytes), .inr (5, [.inr (some (.inl 2)), .inl PR_end, .inl PR_at, .inl PR_ahead, .inl PR_fault, .inr (some (.inl 4)), .inr (some (.inl 5)), .inr (some (.inl 6)), .inl PR_lines, .inl PR_told, .inl PR_stamps]), .inl (0, 20, PR_sign), .inl (0, 20, PR_letter), .inl (0, 20, PR_number), .inr (4, [.inr (some (.inl 8)), .inr (some (.inl 9)), .inr (some (.inl 10)), .inr (some (.inl 11)), .inl Now_told, .inl Now_walled, .inl Now_day, .inl Now_drawState]), .inl (0, 8, Now_place), .inl (0, 8, Now_paste), .inl (0, 48, Now_letter), .inl (0, 48, Now_used), .inr (6, [.inr (some (.inl 13)), .inr (some (.inl 14)), .inr (some (.inl 15)), .inr (some (.inl 16)), .inr (some (.inl 17)), .inl Rep_toldMints, .inl Rep_walls, .inl Rep_stamps]), .inl (0, 8, Rep_mintX), .inl (0, 8, Rep_mintY), .inl (2, 384, Rep_wall), .inl (0, 48, Rep_mintOf), .inl (0, 48, Rep_grainsOf)]) := by
  refine m_X11_post  (Nat.le_of_ble_eq_true rfl) ?_ 
  refine call0 (c_canGive) rfl rfl ?_
  rintro r h' ⟨rfl, rfl⟩
  exact br_b (fun _ => ⟨rfl, rfl⟩) (fun g => absurd ⟨g.1, g.2⟩ hN)
def HI_postC : List AC := [.inr (10, [.inr (.inr (some (.inl 1))), .inr (.inr (some (.inl 12))), .inr (.inr (some (.inl 7))), .inr (.inr (some (.inr 0))), .inr (.inr (some (.inr 1))), .inr (.inr (some (.inr 2))), .inr (.inr (some (.inr 3))), .inr (.inr (some (.inr 4))), .inr (.inr (some (.inr 5))), .inr (.inr (some (.inl 3))), .inr (.inr (some (.inr 6))), .inr (.inr (some (.inr 7))), .inr (.inr (some (.inr 8))), .inr (.inr (some (.inr 9))), .inr (.inr (some (.inr 201)))]), .inr (9, [.inr (.inr (some (.inl 2))), .inr (.inr (some (.inr 202)))]), .inl (1000, 260, 0, 255), .inr (5, [.inr (.inr (some (.inl 2))), .inl (-2147483648, 2147483647), .inl (-2147483648, 2147483647), .inl (-2147483648, 2147483647), .inl (-2147483648, 2147483647), .inr (.inr (some (.inl 4))), .inr (.inr (some (.inl 5))), .inr (.inr (some (.inl 6))), .inl (0, 20), .inl (-2147483648, 2147483647), .inl (-2147483648, 2147483647)]), .inl (0, 20, -2147483648, 2147483647), .inl (0, 20, -2147483648, 2147483647), .inl (0, 20, -2147483648, 2147483647), .inr (4, [.inr (.inr (some (.inl 8))), .inr (.inr (some (.inl 9))), .inr (.inr (some (.inl 10))), .inr (.inr (some (.inl 11))), .inr (.inr (some (.inr 206))), .inl (-2147483648, 2147483647), .inl (-2147483648, 2147483647), .inl (-2147483648, 2147483647)]), .inl (0, 8, -2147483648, 2147483647), .inl (0, 8, -2147483648, 2147483647), .inl (0, 48, -2147483648, 2147483647), .inl (0, 48, -2147483648, 2147483647), .inr (6, [.inr (.inr (some (.inl 13))), .inr (.inr (some (.inl 14))), .inr (.inr (some (.inl 15))), .inr (.inr (some (.inl 16))), .inr (.inr (some (.inl 17))), .inr (.inr (some (.inr 203))), .inl (-2147483648, 2147483647), .inr (.inr (some (.inr 204)))]), .inl (1008, 8, -2147483648, 2147483647), .inl (1012, 8, -2147483648, 2147483647), .inl (1054, 384, 0, 1), .inl (1020, 48, -2147483648, 2147483647), .inl (1024, 48, -2147483648, 2147483647)]
set_option maxRecDepth 100000 in
theorem i_npostC {l : Launch} {a : Int32} : conOkI (MetP l 6 yX11_post cX11_post 3 (some .int) 0 0) [a] (-1) HI_postC (fun τ => ¬ nd_post a (decA (τ 202) 0)) := by
  intro τ hΦ hP h hh
  have hP : ¬ nd_post a (decA (τ 202) 0) := hP
  have z := all2_cons hh
  clear hh
  obtain ⟨e0, h, rfl, g0, hh⟩ := z
  rcases e0 with ⟨t0, n0, f0⟩ | ⟨ci, fs⟩
  · exact g0.elim
  obtain ⟨rfl, gf⟩ := g0
  have z := all2_cons gf
  clear gf
  obtain ⟨v0, fs, rfl, q0, gf⟩ := z
  cases (q0 : v0 = .inr (some (.inl 1)))
  have z := all2_cons gf
  clear gf
  obtain ⟨v0, fs, rfl, q0, gf⟩ := z
  cases (q0 : v0 = .inr (some (.inl 12)))
  have z := all2_cons gf
  clear gf
  obtain ⟨v0, fs, rfl, q0, gf⟩ := z
  cases (q0 : v0 = .inr (some (.inl 7)))
  have z := all2_cons gf
  clear gf
  obtain ⟨v0, fs, rfl, q0, gf⟩ := z
  cases gT_r (τ := τ) (t := 0) (v := v0) rfl q0
  have z := all2_cons gf
  clear gf
  obtain ⟨v0, fs, rfl, q0, gf⟩ := z
  cases gT_r (τ := τ) (t := 1) (v := v0) rfl q0
  have z := all2_cons gf
  clear gf
  obtain ⟨v0, fs, rfl, q0, gf⟩ := z
  cases gT_r (τ := τ) (t := 2) (v := v0) rfl q0
  have z := all2_cons gf
  clear gf
  obtain ⟨v0, fs, rfl, q0, gf⟩ := z
  cases gT_r (τ := τ) (t := 3) (v := v0) rfl q0
  have z := all2_cons gf
  clear gf
  obtain ⟨v0, fs, rfl, q0, gf⟩ := z
  cases gT_r (τ := τ) (t := 4) (v := v0) rfl q0
  have z := all2_cons gf
  clear gf
  obtain ⟨v0, fs, rfl, q0, gf⟩ := z
  cases gT_r (τ := τ) (t := 5) (v := v0) rfl q0
  have z := all2_cons gf
  clear gf
  obtain ⟨v0, fs, rfl, q0, gf⟩ := z
  cases (q0 : v0 = .inr (some (.inl 3)))
  have z := all2_cons gf
  clear gf
  obtain ⟨v0, fs, rfl, q0, gf⟩ := z
  cases gT_r (τ := τ) (t := 6) (v := v0) rfl q0
  have z := all2_cons gf
  clear gf
  obtain ⟨v0, fs, rfl, q0, gf⟩ := z
  cases gT_r (τ := τ) (t := 7) (v := v0) rfl q0
  have z := all2_cons gf
  clear gf
  obtain ⟨v0, fs, rfl, q0, gf⟩ := z
  cases gT_r (τ := τ) (t := 8) (v := v0) rfl q0
  have z := all2_cons gf
  clear gf
  obtain ⟨v0, fs, rfl, q0, gf⟩ := z
  cases gT_r (τ := τ) (t := 9) (v := v0) rfl q0
  have z := all2_cons gf
  clear gf
  obtain ⟨v0, fs, rfl, q0, gf⟩ := z
  obtain ⟨HS_wasKept, rfl, e_HS_wasKept, b_HS_wasKept⟩ := gT_x (τ := τ) (t := 201) (v := v0) rfl q0
  cases fs with
  | cons _ _ => exact gf.elim
  | nil =>
    have z := all2_cons hh
    clear hh
    obtain ⟨e0, h, rfl, g0, hh⟩ := z
    rcases e0 with ⟨t0, n0, f0⟩ | ⟨ci, fs⟩
    · exact g0.elim
    obtain ⟨rfl, gf⟩ := g0
    have z := all2_cons gf
    clear gf
    obtain ⟨v0, fs, rfl, q0, gf⟩ := z
    cases (q0 : v0 = .inr (some (.inl 2)))
    have z := all2_cons gf
    clear gf
    obtain ⟨v0, fs, rfl, q0, gf⟩ := z
    obtain ⟨Tape_size, rfl, e_Tape_size, b_Tape_size⟩ := gT_x (τ := τ) (t := 202) (v := v0) rfl q0
    cases fs with
    | cons _ _ => exact gf.elim
    | nil =>
      have z := all2_cons hh
      clear hh
      obtain ⟨e1, h, rfl, g1, hh⟩ := z
      rcases e1 with ⟨t1, n1, Tape_bytes⟩ | ⟨ci, fs⟩
      rotate_left
      · exact g1.elim
      obtain ⟨et, en, b_Tape_bytes⟩ := g1
      cases (et : t1 = 0)
      cases en
      have z := all2_cons hh
      clear hh
      obtain ⟨e0, h, rfl, g0, hh⟩ := z
      rcases e0 with ⟨t0, n0, f0⟩ | ⟨ci, fs⟩
      · exact g0.elim
      obtain ⟨rfl, gf⟩ := g0
      have z := all2_cons gf
      clear gf
      obtain ⟨v0, fs, rfl, q0, gf⟩ := z
      cases (q0 : v0 = .inr (some (.inl 2)))
      have z := all2_cons gf
      clear gf
      obtain ⟨v0, fs, rfl, q0, gf⟩ := z
      obtain ⟨PR_end, rfl, b_PR_end⟩ := q0
      have z := all2_cons gf
      clear gf
      obtain ⟨v0, fs, rfl, q0, gf⟩ := z
      obtain ⟨PR_at, rfl, b_PR_at⟩ := q0
      have z := all2_cons gf
      clear gf
      obtain ⟨v0, fs, rfl, q0, gf⟩ := z
      obtain ⟨PR_ahead, rfl, b_PR_ahead⟩ := q0
      have z := all2_cons gf
      clear gf
      obtain ⟨v0, fs, rfl, q0, gf⟩ := z
      obtain ⟨PR_fault, rfl, b_PR_fault⟩ := q0
      have z := all2_cons gf
      clear gf
      obtain ⟨v0, fs, rfl, q0, gf⟩ := z
      cases (q0 : v0 = .inr (some (.inl 4)))
      have z := all2_cons gf
      clear gf
      obtain ⟨v0, fs, rfl, q0, gf⟩ := z
      cases (q0 : v0 = .inr (some (.inl 5)))
      have z := all2_cons gf
      clear gf
      obtain ⟨v0, fs, rfl, q0, gf⟩ := z
      cases (q0 : v0 = .inr (some (.inl 6)))
      have z := all2_cons gf
      clear gf
      obtain ⟨v0, fs, rfl, q0, gf⟩ := z
      obtain ⟨PR_lines, rfl, b_PR_lines⟩ := q0
      have z := all2_cons gf
      clear gf
      obtain ⟨v0, fs, rfl, q0, gf⟩ := z
      obtain ⟨PR_told, rfl, b_PR_told⟩ := q0
      have z := all2_cons gf
      clear gf
      obtain ⟨v0, fs, rfl, q0, gf⟩ := z
      obtain ⟨PR_stamps, rfl, b_PR_stamps⟩ := q0
      cases fs with
      | cons _ _ => exact gf.elim
      | nil =>
        have z := all2_cons hh
        clear hh
        obtain ⟨e1, h, rfl, g1, hh⟩ := z
        rcases e1 with ⟨t1, n1, PR_sign⟩ | ⟨ci, fs⟩
        rotate_left
        · exact g1.elim
        obtain ⟨et, en, b_PR_sign⟩ := g1
        cases (et : t1 = 0)
        cases en
        have z := all2_cons hh
        clear hh
        obtain ⟨e1, h, rfl, g1, hh⟩ := z
        rcases e1 with ⟨t1, n1, PR_letter⟩ | ⟨ci, fs⟩
        rotate_left
        · exact g1.elim
        obtain ⟨et, en, b_PR_letter⟩ := g1
        cases (et : t1 = 0)
        cases en
        have z := all2_cons hh
        clear hh
        obtain ⟨e1, h, rfl, g1, hh⟩ := z
        rcases e1 with ⟨t1, n1, PR_number⟩ | ⟨ci, fs⟩
        rotate_left
        · exact g1.elim
        obtain ⟨et, en, b_PR_number⟩ := g1
        cases (et : t1 = 0)
        cases en
        have z := all2_cons hh
        clear hh
        obtain ⟨e0, h, rfl, g0, hh⟩ := z
        rcases e0 with ⟨t0, n0, f0⟩ | ⟨ci, fs⟩
        · exact g0.elim
        obtain ⟨rfl, gf⟩ := g0
        have z := all2_cons gf
        clear gf
        obtain ⟨v0, fs, rfl, q0, gf⟩ := z
        cases (q0 : v0 = .inr (some (.inl 8)))
        have z := all2_cons gf
        clear gf
        obtain ⟨v0, fs, rfl, q0, gf⟩ := z
        cases (q0 : v0 = .inr (some (.inl 9)))
        have z := all2_cons gf
        clear gf
        obtain ⟨v0, fs, rfl, q0, gf⟩ := z
        cases (q0 : v0 = .inr (some (.inl 10)))
        have z := all2_cons gf
        clear gf
        obtain ⟨v0, fs, rfl, q0, gf⟩ := z
        cases (q0 : v0 = .inr (some (.inl 11)))
        have z := all2_cons gf
        clear gf
        obtain ⟨v0, fs, rfl, q0, gf⟩ := z
        obtain ⟨Now_told, rfl, e_Now_told, b_Now_told⟩ := gT_x (τ := τ) (t := 206) (v := v0) rfl q0
        have z := all2_cons gf
        clear gf
        obtain ⟨v0, fs, rfl, q0, gf⟩ := z
        obtain ⟨Now_walled, rfl, b_Now_walled⟩ := q0
        have z := all2_cons gf
        clear gf
        obtain ⟨v0, fs, rfl, q0, gf⟩ := z
        obtain ⟨Now_day, rfl, b_Now_day⟩ := q0
        have z := all2_cons gf
        clear gf
        obtain ⟨v0, fs, rfl, q0, gf⟩ := z
        obtain ⟨Now_drawState, rfl, b_Now_drawState⟩ := q0
        cases fs with
        | cons _ _ => exact gf.elim
        | nil =>
          have z := all2_cons hh
          clear hh
          obtain ⟨e1, h, rfl, g1, hh⟩ := z
          rcases e1 with ⟨t1, n1, Now_place⟩ | ⟨ci, fs⟩
          rotate_left
          · exact g1.elim
          obtain ⟨et, en, b_Now_place⟩ := g1
          cases (et : t1 = 0)
          cases en
          have z := all2_cons hh
          clear hh
          obtain ⟨e1, h, rfl, g1, hh⟩ := z
          rcases e1 with ⟨t1, n1, Now_paste⟩ | ⟨ci, fs⟩
          rotate_left
          · exact g1.elim
          obtain ⟨et, en, b_Now_paste⟩ := g1
          cases (et : t1 = 0)
          cases en
          have z := all2_cons hh
          clear hh
          obtain ⟨e1, h, rfl, g1, hh⟩ := z
          rcases e1 with ⟨t1, n1, Now_letter⟩ | ⟨ci, fs⟩
          rotate_left
          · exact g1.elim
          obtain ⟨et, en, b_Now_letter⟩ := g1
          cases (et : t1 = 0)
          cases en
          have z := all2_cons hh
          clear hh
          obtain ⟨e1, h, rfl, g1, hh⟩ := z
          rcases e1 with ⟨t1, n1, Now_used⟩ | ⟨ci, fs⟩
          rotate_left
          · exact g1.elim
          obtain ⟨et, en, b_Now_used⟩ := g1
          cases (et : t1 = 0)
          cases en
          have z := all2_cons hh
          clear hh
          obtain ⟨e0, h, rfl, g0, hh⟩ := z
          rcases e0 with ⟨t0, n0, f0⟩ | ⟨ci, fs⟩
          · exact g0.elim
          obtain ⟨rfl, gf⟩ := g0
          have z := all2_cons gf
          clear gf
          obtain ⟨v0, fs, rfl, q0, gf⟩ := z
          cases (q0 : v0 = .inr (some (.inl 13)))
          have z := all2_cons gf
          clear gf
          obtain ⟨v0, fs, rfl, q0, gf⟩ := z
          cases (q0 : v0 = .inr (some (.inl 14)))
          have z := all2_cons gf
          clear gf
          obtain ⟨v0, fs, rfl, q0, gf⟩ := z
          cases (q0 : v0 = .inr (some (.inl 15)))
          have z := all2_cons gf
          clear gf
          obtain ⟨v0, fs, rfl, q0, gf⟩ := z
          cases (q0 : v0 = .inr (some (.inl 16)))
          have z := all2_cons gf
          clear gf
          obtain ⟨v0, fs, rfl, q0, gf⟩ := z
          cases (q0 : v0 = .inr (some (.inl 17)))
          have z := all2_cons gf
          clear gf
          obtain ⟨v0, fs, rfl, q0, gf⟩ := z
          obtain ⟨Rep_toldMints, rfl, e_Rep_toldMints, b_Rep_toldMints⟩ := gT_x (τ := τ) (t := 203) (v := v0) rfl q0
          have z := all2_cons gf
          clear gf
          obtain ⟨v0, fs, rfl, q0, gf⟩ := z
          obtain ⟨Rep_walls, rfl, b_Rep_walls⟩ := q0
          have z := all2_cons gf
          clear gf
          obtain ⟨v0, fs, rfl, q0, gf⟩ := z
          obtain ⟨Rep_stamps, rfl, e_Rep_stamps, b_Rep_stamps⟩ := gT_x (τ := τ) (t := 204) (v := v0) rfl q0
          cases fs with
          | cons _ _ => exact gf.elim
          | nil =>
            have z := all2_cons hh
            clear hh
            obtain ⟨e1, h, rfl, g1, hh⟩ := z
            rcases e1 with ⟨t1, n1, Rep_mintX⟩ | ⟨ci, fs⟩
            rotate_left
            · exact g1.elim
            obtain ⟨et, en, b_Rep_mintX⟩ := g1
            cases (et : t1 = 0)
            cases en
            have z := all2_cons hh
            clear hh
            obtain ⟨e1, h, rfl, g1, hh⟩ := z
            rcases e1 with ⟨t1, n1, Rep_mintY⟩ | ⟨ci, fs⟩
            rotate_left
            · exact g1.elim
            obtain ⟨et, en, b_Rep_mintY⟩ := g1
            cases (et : t1 = 0)
            cases en
            have z := all2_cons hh
            clear hh
            obtain ⟨e1, h, rfl, g1, hh⟩ := z
            rcases e1 with ⟨t1, n1, Rep_wall⟩ | ⟨ci, fs⟩
            rotate_left
            · exact g1.elim
            obtain ⟨et, en, b_Rep_wall⟩ := g1
            cases (et : t1 = 2)
            cases en
            have z := all2_cons hh
            clear hh
            obtain ⟨e1, h, rfl, g1, hh⟩ := z
            rcases e1 with ⟨t1, n1, Rep_mintOf⟩ | ⟨ci, fs⟩
            rotate_left
            · exact g1.elim
            obtain ⟨et, en, b_Rep_mintOf⟩ := g1
            cases (et : t1 = 0)
            cases en
            have z := all2_cons hh
            clear hh
            obtain ⟨e1, h, rfl, g1, hh⟩ := z
            rcases e1 with ⟨t1, n1, Rep_grainsOf⟩ | ⟨ci, fs⟩
            rotate_left
            · exact g1.elim
            obtain ⟨et, en, b_Rep_grainsOf⟩ := g1
            cases (et : t1 = 0)
            cases en
            cases h with
            | cons _ _ => exact hh.elim
            | nil =>
              rw [← e_Tape_size] at hP
              exact c_npostC hP

set_option maxRecDepth 100000 in
theorem c_npostR {l : Launch} {M_kept M_mintAt M_mintOf M_wholeOf M_said M_waitsAt M_saidLetter M_saidFrom M_saidHalf M_saidTo M_codes M_clauseOf M_codeFrom M_codeHalf M_codeTo M_stack M_facts M_newStamps M_roundFrom M_roundAt M_roundTimes M_usesNow M_wasAt M_someOf M_fewestFor M_getsOf : List (Option Nat)} {M_stampMany M_taped M_place0 M_length0 M_fault M_number0 M_open M_codeMany M_waiting M_saidMany M_clauses M_newMany M_rounds M_stampFrom M_stampTimes M_lines M_spot0 M_pullAcross M_pullAlong M_stepsNow M_fallenNow M_isKept : Int32} {M_now M_aside M_isWall M_wasWall M_tape : Nat → Int32}  {a : Int32} (hN : ¬ nd_post a M_taped) : MetP l 6 yX12_post cX12_post 4 (some .int) 0 0 [.inr (some (.inl 0)), .inl a] [.inr (11, [.inr (some (.inl 1)), .inr (some (.inl 2)), .inr (some (.inr M_kept)), .inr (some (.inr M_mintAt)), .inr (some (.inr M_mintOf)), .inr (some (.inr M_wholeOf)), .inr (some (.inl 3)), .inr (some (.inl 4)), .inl M_stampMany, .inr (some (.inl 5)), .inl M_taped, .inl M_place0, .inl M_length0, .inl M_fault, .inl M_number0, .inl M_open, .inl M_codeMany, .inl M_waiting, .inl M_saidMany, .inl M_clauses, .inr (some (.inr M_said)), .inr (some (.inr M_waitsAt)), .inr (some (.inr M_saidLetter)), .inr (some (.inr M_saidFrom)), .inr (some (.inr M_saidHalf)), .inr (some (.inr M_saidTo)), .inr (some (.inr M_codes)), .inr (some (.inr M_clauseOf)), .inr (some (.inr M_codeFrom)), .inr (some (.inr M_codeHalf)), .inr (some (.inr M_codeTo)), .inr (some (.inr M_stack)), .inr (some (.inr M_facts)), .inr (some (.inr M_newStamps)), .inr (some (.inr M_roundFrom)), .inr (some (.inr M_roundAt)), .inr (some (.inr M_roundTimes)), .inl M_newMany, .inl M_rounds, .inl M_stampFrom, .inl M_stampTimes, .inl M_lines, .inl M_spot0, .inl M_pullAcross, .inl M_pullAlong, .inl M_stepsNow, .inl M_fallenNow, .inr (some (.inr M_usesNow)), .inr (some (.inr M_wasAt)), .inr (some (.inr M_someOf)), .inr (some (.inr M_fewestFor)), .inr (some (.inr M_getsOf)), .inl M_isKept]), .inl (0, 130, M_now), .inl (0, 130, M_aside), .inl (2, 384, M_isWall), .inl (2, 384, M_wasWall), .inl (1, 260, M_tape)] (fun r h' => r = some (.inl (-1)) ∧ h' = [.inr (11, [.inr (some (.inl 1)), .inr (some (.inl 2)), .inr (some (.inr M_kept)), .inr (some (.inr M_mintAt)), .inr (some (.inr M_mintOf)), .inr (some (.inr M_wholeOf)), .inr (some (.inl 3)), .inr (some (.inl 4)), .inl M_stampMany, .inr (some (.inl 5)), .inl M_taped, .inl M_place0, .inl M_length0, .inl M_fault, .inl M_number0, .inl M_open, .inl M_codeMany, .inl M_waiting, .inl M_saidMany, .inl M_clauses, .inr (some (.inr M_said)), .inr (some (.inr M_waitsAt)), .inr (some (.inr M_saidLetter)), .inr (some (.inr M_saidFrom)), .inr (some (.inr M_saidHalf)), .inr (some (.inr M_saidTo)), .inr (some (.inr M_codes)), .inr (some (.inr M_clauseOf)), .inr (some (.inr M_codeFrom)), .inr (some (.inr M_codeHalf)), .inr (some (.inr M_codeTo)), .inr (some (.inr M_stack)), .inr (some (.inr M_facts)), .inr (some (.inr M_newStamps)), .inr (some (.inr M_roundFrom)), .inr (some (.inr M_roundAt)), .inr (some (.inr M_roundTimes)), .inl M_newMany, .inl M_rounds, .inl M_stampFrom, .inl M_stampTimes, .inl M_lines, .inl M_spot0, .inl M_pullAcross, .inl M_pullAlong, .inl M_stepsNow, .inl M_fallenNow, .inr (some (.inr M_usesNow)), .inr (some (.inr M_wasAt)), .inr (some (.inr M_someOf)), .inr (some (.inr M_fewestFor)), .inr (some (.inr M_getsOf)), .inl M_isKept]), .inl (0, 130, M_now), .inl (0, 130, M_aside), .inl (2, 384, M_isWall), .inl (2, 384, M_wasWall), .inl (1, 260, M_tape)]) := by
  refine m_X12_post (fun _ _ _ _ => False) (fun _ _ _ _ => False) (fun _ _ _ _ => False) (Nat.le_of_ble_eq_true rfl) ?_ (fun _ _ _ _ z => z.elim) (fun _ _ _ _ z => z.elim) (fun _ _ _ _ z => z.elim)
  refine call0 (c_in) rfl rfl ?_
  rintro r h' ⟨rfl, rfl⟩
  refine br_b (fun _ => ⟨rfl, rfl⟩) (fun g1 => ?_)
  exact And.intro (fun g => absurd ⟨g1, g⟩ hN) (fun _ => ⟨rfl, rfl⟩)
def HI_postR : List AC := [.inr (11, [.inr (.inr (some (.inl 1))), .inr (.inr (some (.inl 2))), .inr (.inr (some (.inr 0))), .inr (.inr (some (.inr 1))), .inr (.inr (some (.inr 2))), .inr (.inr (some (.inr 3))), .inr (.inr (some (.inl 3))), .inr (.inr (some (.inl 4))), .inr (.inr (some (.inr 205))), .inr (.inr (some (.inl 5))), .inr (.inr (some (.inr 202))), .inl (0, 240), .inl (0, 240), .inl (-2147483648, 2147483647), .inl (-2147483648, 2147483647), .inl (-2147483648, 2147483647), .inl (0, 260), .inl (0, 260), .inl (0, 16), .inr (.inr (some (.inr 200))), .inr (.inr (some (.inr 4))), .inr (.inr (some (.inr 5))), .inr (.inr (some (.inr 6))), .inr (.inr (some (.inr 7))), .inr (.inr (some (.inr 8))), .inr (.inr (some (.inr 9))), .inr (.inr (some (.inr 10))), .inr (.inr (some (.inr 11))), .inr (.inr (some (.inr 12))), .inr (.inr (some (.inr 13))), .inr (.inr (some (.inr 14))), .inr (.inr (some (.inr 15))), .inr (.inr (some (.inr 16))), .inr (.inr (some (.inr 17))), .inr (.inr (some (.inr 18))), .inr (.inr (some (.inr 19))), .inr (.inr (some (.inr 20))), .inl (-2147483648, 2147483647), .inl (-2147483648, 2147483647), .inl (-2147483648, 2147483647), .inl (-2147483648, 2147483647), .inl (-2147483648, 2147483647), .inl (-2147483648, 2147483647), .inl (-2147483648, 2147483647), .inl (-2147483648, 2147483647), .inl (-2147483648, 2147483647), .inl (-2147483648, 2147483647), .inr (.inr (some (.inr 21))), .inr (.inr (some (.inr 22))), .inr (.inr (some (.inr 23))), .inr (.inr (some (.inr 24))), .inr (.inr (some (.inr 25))), .inr (.inr (some (.inr 201)))]), .inl (600, 130, 0, 383), .inl (3, 130, 0, 383), .inl (1058, 384, 0, 1), .inl (2, 384, 0, 1), .inl (1005, 260, -128, 127)]
set_option maxRecDepth 100000 in
theorem i_npostR {l : Launch} {a : Int32} : conOkI (MetP l 6 yX12_post cX12_post 4 (some .int) 0 0) [a] (-1) HI_postR (fun τ => ¬ nd_post a (decA (τ 202) 0)) := by
  intro τ hΦ hP h hh
  have hP : ¬ nd_post a (decA (τ 202) 0) := hP
  have z := all2_cons hh
  clear hh
  obtain ⟨e0, h, rfl, g0, hh⟩ := z
  rcases e0 with ⟨t0, n0, f0⟩ | ⟨ci, fs⟩
  · exact g0.elim
  obtain ⟨rfl, gf⟩ := g0
  have z := all2_cons gf
  clear gf
  obtain ⟨v0, fs, rfl, q0, gf⟩ := z
  cases (q0 : v0 = .inr (some (.inl 1)))
  have z := all2_cons gf
  clear gf
  obtain ⟨v0, fs, rfl, q0, gf⟩ := z
  cases (q0 : v0 = .inr (some (.inl 2)))
  have z := all2_cons gf
  clear gf
  obtain ⟨v0, fs, rfl, q0, gf⟩ := z
  cases gT_r (τ := τ) (t := 0) (v := v0) rfl q0
  have z := all2_cons gf
  clear gf
  obtain ⟨v0, fs, rfl, q0, gf⟩ := z
  cases gT_r (τ := τ) (t := 1) (v := v0) rfl q0
  have z := all2_cons gf
  clear gf
  obtain ⟨v0, fs, rfl, q0, gf⟩ := z
  cases gT_r (τ := τ) (t := 2) (v := v0) rfl q0
  have z := all2_cons gf
  clear gf
  obtain ⟨v0, fs, rfl, q0, gf⟩ := z
  cases gT_r (τ := τ) (t := 3) (v := v0) rfl q0
  have z := all2_cons gf
  clear gf
  obtain ⟨v0, fs, rfl, q0, gf⟩ := z
  cases (q0 : v0 = .inr (some (.inl 3)))
  have z := all2_cons gf
  clear gf
  obtain ⟨v0, fs, rfl, q0, gf⟩ := z
  cases (q0 : v0 = .inr (some (.inl 4)))
  have z := all2_cons gf
  clear gf
  obtain ⟨v0, fs, rfl, q0, gf⟩ := z
  obtain ⟨M_stampMany, rfl, e_M_stampMany, b_M_stampMany⟩ := gT_x (τ := τ) (t := 205) (v := v0) rfl q0
  have z := all2_cons gf
  clear gf
  obtain ⟨v0, fs, rfl, q0, gf⟩ := z
  cases (q0 : v0 = .inr (some (.inl 5)))
  have z := all2_cons gf
  clear gf
  obtain ⟨v0, fs, rfl, q0, gf⟩ := z
  obtain ⟨M_taped, rfl, e_M_taped, b_M_taped⟩ := gT_x (τ := τ) (t := 202) (v := v0) rfl q0
  have z := all2_cons gf
  clear gf
  obtain ⟨v0, fs, rfl, q0, gf⟩ := z
  obtain ⟨M_place0, rfl, b_M_place0⟩ := q0
  have z := all2_cons gf
  clear gf
  obtain ⟨v0, fs, rfl, q0, gf⟩ := z
  obtain ⟨M_length0, rfl, b_M_length0⟩ := q0
  have z := all2_cons gf
  clear gf
  obtain ⟨v0, fs, rfl, q0, gf⟩ := z
  obtain ⟨M_fault, rfl, b_M_fault⟩ := q0
  have z := all2_cons gf
  clear gf
  obtain ⟨v0, fs, rfl, q0, gf⟩ := z
  obtain ⟨M_number0, rfl, b_M_number0⟩ := q0
  have z := all2_cons gf
  clear gf
  obtain ⟨v0, fs, rfl, q0, gf⟩ := z
  obtain ⟨M_open, rfl, b_M_open⟩ := q0
  have z := all2_cons gf
  clear gf
  obtain ⟨v0, fs, rfl, q0, gf⟩ := z
  obtain ⟨M_codeMany, rfl, b_M_codeMany⟩ := q0
  have z := all2_cons gf
  clear gf
  obtain ⟨v0, fs, rfl, q0, gf⟩ := z
  obtain ⟨M_waiting, rfl, b_M_waiting⟩ := q0
  have z := all2_cons gf
  clear gf
  obtain ⟨v0, fs, rfl, q0, gf⟩ := z
  obtain ⟨M_saidMany, rfl, b_M_saidMany⟩ := q0
  have z := all2_cons gf
  clear gf
  obtain ⟨v0, fs, rfl, q0, gf⟩ := z
  obtain ⟨M_clauses, rfl, e_M_clauses, b_M_clauses⟩ := gT_x (τ := τ) (t := 200) (v := v0) rfl q0
  have z := all2_cons gf
  clear gf
  obtain ⟨v0, fs, rfl, q0, gf⟩ := z
  cases gT_r (τ := τ) (t := 4) (v := v0) rfl q0
  have z := all2_cons gf
  clear gf
  obtain ⟨v0, fs, rfl, q0, gf⟩ := z
  cases gT_r (τ := τ) (t := 5) (v := v0) rfl q0
  have z := all2_cons gf
  clear gf
  obtain ⟨v0, fs, rfl, q0, gf⟩ := z
  cases gT_r (τ := τ) (t := 6) (v := v0) rfl q0
  have z := all2_cons gf
  clear gf
  obtain ⟨v0, fs, rfl, q0, gf⟩ := z
  cases gT_r (τ := τ) (t := 7) (v := v0) rfl q0
  have z := all2_cons gf
  clear gf
  obtain ⟨v0, fs, rfl, q0, gf⟩ := z
  cases gT_r (τ := τ) (t := 8) (v := v0) rfl q0
  have z := all2_cons gf
  clear gf
  obtain ⟨v0, fs, rfl, q0, gf⟩ := z
  cases gT_r (τ := τ) (t := 9) (v := v0) rfl q0
  have z := all2_cons gf
  clear gf
  obtain ⟨v0, fs, rfl, q0, gf⟩ := z
  cases gT_r (τ := τ) (t := 10) (v := v0) rfl q0
  have z := all2_cons gf
  clear gf
  obtain ⟨v0, fs, rfl, q0, gf⟩ := z
  cases gT_r (τ := τ) (t := 11) (v := v0) rfl q0
  have z := all2_cons gf
  clear gf
  obtain ⟨v0, fs, rfl, q0, gf⟩ := z
  cases gT_r (τ := τ) (t := 12) (v := v0) rfl q0
  have z := all2_cons gf
  clear gf
  obtain ⟨v0, fs, rfl, q0, gf⟩ := z
  cases gT_r (τ := τ) (t := 13) (v := v0) rfl q0
  have z := all2_cons gf
  clear gf
  obtain ⟨v0, fs, rfl, q0, gf⟩ := z
  cases gT_r (τ := τ) (t := 14) (v := v0) rfl q0
  have z := all2_cons gf
  clear gf
  obtain ⟨v0, fs, rfl, q0, gf⟩ := z
  cases gT_r (τ := τ) (t := 15) (v := v0) rfl q0
  have z := all2_cons gf
  clear gf
  obtain ⟨v0, fs, rfl, q0, gf⟩ := z
  cases gT_r (τ := τ) (t := 16) (v := v0) rfl q0
  have z := all2_cons gf
  clear gf
  obtain ⟨v0, fs, rfl, q0, gf⟩ := z
  cases gT_r (τ := τ) (t := 17) (v := v0) rfl q0
  have z := all2_cons gf
  clear gf
  obtain ⟨v0, fs, rfl, q0, gf⟩ := z
  cases gT_r (τ := τ) (t := 18) (v := v0) rfl q0
  have z := all2_cons gf
  clear gf
  obtain ⟨v0, fs, rfl, q0, gf⟩ := z
  cases gT_r (τ := τ) (t := 19) (v := v0) rfl q0
  have z := all2_cons gf
  clear gf
  obtain ⟨v0, fs, rfl, q0, gf⟩ := z
  cases gT_r (τ := τ) (t := 20) (v := v0) rfl q0
  have z := all2_cons gf
  clear gf
  obtain ⟨v0, fs, rfl, q0, gf⟩ := z
  obtain ⟨M_newMany, rfl, b_M_newMany⟩ := q0
  have z := all2_cons gf
  clear gf
  obtain ⟨v0, fs, rfl, q0, gf⟩ := z
  obtain ⟨M_rounds, rfl, b_M_rounds⟩ := q0
  have z := all2_cons gf
  clear gf
  obtain ⟨v0, fs, rfl, q0, gf⟩ := z
  obtain ⟨M_stampFrom, rfl, b_M_stampFrom⟩ := q0
  have z := all2_cons gf
  clear gf
  obtain ⟨v0, fs, rfl, q0, gf⟩ := z
  obtain ⟨M_stampTimes, rfl, b_M_stampTimes⟩ := q0
  have z := all2_cons gf
  clear gf
  obtain ⟨v0, fs, rfl, q0, gf⟩ := z
  obtain ⟨M_lines, rfl, b_M_lines⟩ := q0
  have z := all2_cons gf
  clear gf
  obtain ⟨v0, fs, rfl, q0, gf⟩ := z
  obtain ⟨M_spot0, rfl, b_M_spot0⟩ := q0
  have z := all2_cons gf
  clear gf
  obtain ⟨v0, fs, rfl, q0, gf⟩ := z
  obtain ⟨M_pullAcross, rfl, b_M_pullAcross⟩ := q0
  have z := all2_cons gf
  clear gf
  obtain ⟨v0, fs, rfl, q0, gf⟩ := z
  obtain ⟨M_pullAlong, rfl, b_M_pullAlong⟩ := q0
  have z := all2_cons gf
  clear gf
  obtain ⟨v0, fs, rfl, q0, gf⟩ := z
  obtain ⟨M_stepsNow, rfl, b_M_stepsNow⟩ := q0
  have z := all2_cons gf
  clear gf
  obtain ⟨v0, fs, rfl, q0, gf⟩ := z
  obtain ⟨M_fallenNow, rfl, b_M_fallenNow⟩ := q0
  have z := all2_cons gf
  clear gf
  obtain ⟨v0, fs, rfl, q0, gf⟩ := z
  cases gT_r (τ := τ) (t := 21) (v := v0) rfl q0
  have z := all2_cons gf
  clear gf
  obtain ⟨v0, fs, rfl, q0, gf⟩ := z
  cases gT_r (τ := τ) (t := 22) (v := v0) rfl q0
  have z := all2_cons gf
  clear gf
  obtain ⟨v0, fs, rfl, q0, gf⟩ := z
  cases gT_r (τ := τ) (t := 23) (v := v0) rfl q0
  have z := all2_cons gf
  clear gf
  obtain ⟨v0, fs, rfl, q0, gf⟩ := z
  cases gT_r (τ := τ) (t := 24) (v := v0) rfl q0
  have z := all2_cons gf
  clear gf
  obtain ⟨v0, fs, rfl, q0, gf⟩ := z
  cases gT_r (τ := τ) (t := 25) (v := v0) rfl q0
  have z := all2_cons gf
  clear gf
  obtain ⟨v0, fs, rfl, q0, gf⟩ := z
  obtain ⟨M_isKept, rfl, e_M_isKept, b_M_isKept⟩ := gT_x (τ := τ) (t := 201) (v := v0) rfl q0
  cases fs with
  | cons _ _ => exact gf.elim
  | nil =>
    have z := all2_cons hh
    clear hh
    obtain ⟨e1, h, rfl, g1, hh⟩ := z
    rcases e1 with ⟨t1, n1, M_now⟩ | ⟨ci, fs⟩
    rotate_left
    · exact g1.elim
    obtain ⟨et, en, b_M_now⟩ := g1
    cases (et : t1 = 0)
    cases en
    have z := all2_cons hh
    clear hh
    obtain ⟨e1, h, rfl, g1, hh⟩ := z
    rcases e1 with ⟨t1, n1, M_aside⟩ | ⟨ci, fs⟩
    rotate_left
    · exact g1.elim
    obtain ⟨et, en, b_M_aside⟩ := g1
    cases (et : t1 = 0)
    cases en
    have z := all2_cons hh
    clear hh
    obtain ⟨e1, h, rfl, g1, hh⟩ := z
    rcases e1 with ⟨t1, n1, M_isWall⟩ | ⟨ci, fs⟩
    rotate_left
    · exact g1.elim
    obtain ⟨et, en, b_M_isWall⟩ := g1
    cases (et : t1 = 2)
    cases en
    have z := all2_cons hh
    clear hh
    obtain ⟨e1, h, rfl, g1, hh⟩ := z
    rcases e1 with ⟨t1, n1, M_wasWall⟩ | ⟨ci, fs⟩
    rotate_left
    · exact g1.elim
    obtain ⟨et, en, b_M_wasWall⟩ := g1
    cases (et : t1 = 2)
    cases en
    have z := all2_cons hh
    clear hh
    obtain ⟨e1, h, rfl, g1, hh⟩ := z
    rcases e1 with ⟨t1, n1, M_tape⟩ | ⟨ci, fs⟩
    rotate_left
    · exact g1.elim
    obtain ⟨et, en, b_M_tape⟩ := g1
    cases (et : t1 = 1)
    cases en
    cases h with
    | cons _ _ => exact hh.elim
    | nil =>
      rw [← e_M_taped] at hP
      exact c_npostR hP

def nd_check (a s : Int32) : Prop := (0 ≤ a ∧ a ≤ 8) ∧ a ≤ s
set_option maxRecDepth 100000 in
theorem c_ncheckC {l : Launch} {HS_republic HS_kept HS_trial HS_clerk HS_crew HS_riddles HS_sheetReader HS_postReader HS_lawReader HS_seen HS_rules HS_spareRules : List (Option Nat)} {HS_wasKept Now_told Now_walled Now_day Now_drawState Tape_size : Int32} {Now_place Now_paste Now_letter Now_used Tape_bytes : Nat → Int32}  {a : Int32} (hN : ¬ nd_check a Tape_size) : MetP l 2 yX11_check cX11_check 5 (some .int) 0 0 [.inr (some (.inl 0)), .inl a] [.inr (10, [.inr (some (.inl 6)), .inr (some (.inr HS_republic)), .inr (some (.inl 1)), .inr (some (.inr HS_kept)), .inr (some (.inr HS_trial)), .inr (some (.inr HS_clerk)), .inr (some (.inr HS_crew)), .inr (some (.inr HS_riddles)), .inr (some (.inr HS_sheetReader)), .inr (some (.inr HS_postReader)), .inr (some (.inr HS_lawReader)), .inr (some (.inr HS_seen)), .inr (some (.inr HS_rules)), .inr (some (.inr HS_spareRules)), .inl HS_wasKept]), .inr (4, [.inr (some (.inl 2)), .inr (some (.inl 3)), .inr (some (.inl 4)), .inr (some (.inl 5)), .inl Now_told, .inl Now_walled, .inl Now_day, .inl Now_drawState]), .inl (0, 8, Now_place), .inl (0, 8, Now_paste), .inl (0, 48, Now_letter), .inl (0, 48, Now_used), .inr (9, [.inr (some (.inl 7)), .inl Tape_size]), .inl (0, 260, Tape_bytes)] (fun r h' => r = some (.inl (-2)) ∧ h' = [.inr (10, [.inr (some (.inl 6)), .inr (some (.inr HS_republic)), .inr (some (.inl 1)), .inr (some (.inr HS_kept)), .inr (some (.inr HS_trial)), .inr (some (.inr HS_clerk)), .inr (some (.inr HS_crew)), .inr (some (.inr HS_riddles)), .inr (some (.inr HS_sheetReader)), .inr (some (.inr HS_postReader)), .inr (some (.inr HS_lawReader)), .inr (some (.inr HS_seen)), .inr (some (.inr HS_rules)), .inr (some (.inr HS_spareRules)), .inl HS_wasKept]), .inr (4, [.inr (some (.inl 2)), .inr (some (.inl 3)), .inr (some (.inl 4)), .inr (some (.inl 5)), .inl Now_told, .inl Now_walled, .inl Now_day, .inl Now_drawState]), .inl (0, 8, Now_place), .inl (0, 8, Now_paste), .inl (0, 48, Now_letter), .inl (0, 48, Now_used), .inr (9, [.inr (some (.inl 7)), .inl Tape_size]), .inl (0, 260, Tape_bytes)]) := by
  refine m_X11_check (fun _ _ _ _ => False) (Nat.le_of_ble_eq_true rfl) ?_ (fun _ _ _ _ z => z.elim)
  refine call0 (c_canGive) rfl rfl ?_
  rintro r h' ⟨rfl, rfl⟩
  exact br_b (fun _ => ⟨rfl, rfl⟩) (fun g => absurd ⟨g.1, g.2⟩ hN)
def HI_checkC : List AC := [.inr (10, [.inr (.inr (some (.inl 6))), .inr (.inr (some (.inr 0))), .inr (.inr (some (.inl 1))), .inr (.inr (some (.inr 1))), .inr (.inr (some (.inr 2))), .inr (.inr (some (.inr 3))), .inr (.inr (some (.inr 4))), .inr (.inr (some (.inr 5))), .inr (.inr (some (.inr 6))), .inr (.inr (some (.inr 7))), .inr (.inr (some (.inr 8))), .inr (.inr (some (.inr 9))), .inr (.inr (some (.inr 10))), .inr (.inr (some (.inr 11))), .inr (.inr (some (.inr 201)))]), .inr (4, [.inr (.inr (some (.inl 2))), .inr (.inr (some (.inl 3))), .inr (.inr (some (.inl 4))), .inr (.inr (some (.inl 5))), .inr (.inr (some (.inr 206))), .inl (-2147483648, 2147483647), .inl (-2147483648, 2147483647), .inl (-2147483648, 2147483647)]), .inl (0, 8, -2147483648, 2147483647), .inl (0, 8, -2147483648, 2147483647), .inl (0, 48, -2147483648, 2147483647), .inl (0, 48, -2147483648, 2147483647), .inr (9, [.inr (.inr (some (.inl 7))), .inr (.inr (some (.inr 202)))]), .inl (1000, 260, 0, 255)]
set_option maxRecDepth 100000 in
theorem i_ncheckC {l : Launch} {a : Int32} : conOkI (MetP l 2 yX11_check cX11_check 5 (some .int) 0 0) [a] (-2) HI_checkC (fun τ => ¬ nd_check a (decA (τ 202) 0)) := by
  intro τ hΦ hP h hh
  have hP : ¬ nd_check a (decA (τ 202) 0) := hP
  have z := all2_cons hh
  clear hh
  obtain ⟨e0, h, rfl, g0, hh⟩ := z
  rcases e0 with ⟨t0, n0, f0⟩ | ⟨ci, fs⟩
  · exact g0.elim
  obtain ⟨rfl, gf⟩ := g0
  have z := all2_cons gf
  clear gf
  obtain ⟨v0, fs, rfl, q0, gf⟩ := z
  cases (q0 : v0 = .inr (some (.inl 6)))
  have z := all2_cons gf
  clear gf
  obtain ⟨v0, fs, rfl, q0, gf⟩ := z
  cases gT_r (τ := τ) (t := 0) (v := v0) rfl q0
  have z := all2_cons gf
  clear gf
  obtain ⟨v0, fs, rfl, q0, gf⟩ := z
  cases (q0 : v0 = .inr (some (.inl 1)))
  have z := all2_cons gf
  clear gf
  obtain ⟨v0, fs, rfl, q0, gf⟩ := z
  cases gT_r (τ := τ) (t := 1) (v := v0) rfl q0
  have z := all2_cons gf
  clear gf
  obtain ⟨v0, fs, rfl, q0, gf⟩ := z
  cases gT_r (τ := τ) (t := 2) (v := v0) rfl q0
  have z := all2_cons gf
  clear gf
  obtain ⟨v0, fs, rfl, q0, gf⟩ := z
  cases gT_r (τ := τ) (t := 3) (v := v0) rfl q0
  have z := all2_cons gf
  clear gf
  obtain ⟨v0, fs, rfl, q0, gf⟩ := z
  cases gT_r (τ := τ) (t := 4) (v := v0) rfl q0
  have z := all2_cons gf
  clear gf
  obtain ⟨v0, fs, rfl, q0, gf⟩ := z
  cases gT_r (τ := τ) (t := 5) (v := v0) rfl q0
  have z := all2_cons gf
  clear gf
  obtain ⟨v0, fs, rfl, q0, gf⟩ := z
  cases gT_r (τ := τ) (t := 6) (v := v0) rfl q0
  have z := all2_cons gf
  clear gf
  obtain ⟨v0, fs, rfl, q0, gf⟩ := z
  cases gT_r (τ := τ) (t := 7) (v := v0) rfl q0
  have z := all2_cons gf
  clear gf
  obtain ⟨v0, fs, rfl, q0, gf⟩ := z
  cases gT_r (τ := τ) (t := 8) (v := v0) rfl q0
  have z := all2_cons gf
  clear gf
  obtain ⟨v0, fs, rfl, q0, gf⟩ := z
  cases gT_r (τ := τ) (t := 9) (v := v0) rfl q0
  have z := all2_cons gf
  clear gf
  obtain ⟨v0, fs, rfl, q0, gf⟩ := z
  cases gT_r (τ := τ) (t := 10) (v := v0) rfl q0
  have z := all2_cons gf
  clear gf
  obtain ⟨v0, fs, rfl, q0, gf⟩ := z
  cases gT_r (τ := τ) (t := 11) (v := v0) rfl q0
  have z := all2_cons gf
  clear gf
  obtain ⟨v0, fs, rfl, q0, gf⟩ := z
  obtain ⟨HS_wasKept, rfl, e_HS_wasKept, b_HS_wasKept⟩ := gT_x (τ := τ) (t := 201) (v := v0) rfl q0
  cases fs with
  | cons _ _ => exact gf.elim
  | nil =>
    have z := all2_cons hh
    clear hh
    obtain ⟨e0, h, rfl, g0, hh⟩ := z
    rcases e0 with ⟨t0, n0, f0⟩ | ⟨ci, fs⟩
    · exact g0.elim
    obtain ⟨rfl, gf⟩ := g0
    have z := all2_cons gf
    clear gf
    obtain ⟨v0, fs, rfl, q0, gf⟩ := z
    cases (q0 : v0 = .inr (some (.inl 2)))
    have z := all2_cons gf
    clear gf
    obtain ⟨v0, fs, rfl, q0, gf⟩ := z
    cases (q0 : v0 = .inr (some (.inl 3)))
    have z := all2_cons gf
    clear gf
    obtain ⟨v0, fs, rfl, q0, gf⟩ := z
    cases (q0 : v0 = .inr (some (.inl 4)))
    have z := all2_cons gf
    clear gf
    obtain ⟨v0, fs, rfl, q0, gf⟩ := z
    cases (q0 : v0 = .inr (some (.inl 5)))
    have z := all2_cons gf
    clear gf
    obtain ⟨v0, fs, rfl, q0, gf⟩ := z
    obtain ⟨Now_told, rfl, e_Now_told, b_Now_told⟩ := gT_x (τ := τ) (t := 206) (v := v0) rfl q0
    have z := all2_cons gf
    clear gf
    obtain ⟨v0, fs, rfl, q0, gf⟩ := z
    obtain ⟨Now_walled, rfl, b_Now_walled⟩ := q0
    have z := all2_cons gf
    clear gf
    obtain ⟨v0, fs, rfl, q0, gf⟩ := z
    obtain ⟨Now_day, rfl, b_Now_day⟩ := q0
    have z := all2_cons gf
    clear gf
    obtain ⟨v0, fs, rfl, q0, gf⟩ := z
    obtain ⟨Now_drawState, rfl, b_Now_drawState⟩ := q0
    cases fs with
    | cons _ _ => exact gf.elim
    | nil =>
      have z := all2_cons hh
      clear hh
      obtain ⟨e1, h, rfl, g1, hh⟩ := z
      rcases e1 with ⟨t1, n1, Now_place⟩ | ⟨ci, fs⟩
      rotate_left
      · exact g1.elim
      obtain ⟨et, en, b_Now_place⟩ := g1
      cases (et : t1 = 0)
      cases en
      have z := all2_cons hh
      clear hh
      obtain ⟨e1, h, rfl, g1, hh⟩ := z
      rcases e1 with ⟨t1, n1, Now_paste⟩ | ⟨ci, fs⟩
      rotate_left
      · exact g1.elim
      obtain ⟨et, en, b_Now_paste⟩ := g1
      cases (et : t1 = 0)
      cases en
      have z := all2_cons hh
      clear hh
      obtain ⟨e1, h, rfl, g1, hh⟩ := z
      rcases e1 with ⟨t1, n1, Now_letter⟩ | ⟨ci, fs⟩
      rotate_left
      · exact g1.elim
      obtain ⟨et, en, b_Now_letter⟩ := g1
      cases (et : t1 = 0)
      cases en
      have z := all2_cons hh
      clear hh
      obtain ⟨e1, h, rfl, g1, hh⟩ := z
      rcases e1 with ⟨t1, n1, Now_used⟩ | ⟨ci, fs⟩
      rotate_left
      · exact g1.elim
      obtain ⟨et, en, b_Now_used⟩ := g1
      cases (et : t1 = 0)
      cases en
      have z := all2_cons hh
      clear hh
      obtain ⟨e0, h, rfl, g0, hh⟩ := z
      rcases e0 with ⟨t0, n0, f0⟩ | ⟨ci, fs⟩
      · exact g0.elim
      obtain ⟨rfl, gf⟩ := g0
      have z := all2_cons gf
      clear gf
      obtain ⟨v0, fs, rfl, q0, gf⟩ := z
      cases (q0 : v0 = .inr (some (.inl 7)))
      have z := all2_cons gf
      clear gf
      obtain ⟨v0, fs, rfl, q0, gf⟩ := z
      obtain ⟨Tape_size, rfl, e_Tape_size, b_Tape_size⟩ := gT_x (τ := τ) (t := 202) (v := v0) rfl q0
      cases fs with
      | cons _ _ => exact gf.elim
      | nil =>
        have z := all2_cons hh
        clear hh
        obtain ⟨e1, h, rfl, g1, hh⟩ := z
        rcases e1 with ⟨t1, n1, Tape_bytes⟩ | ⟨ci, fs⟩
        rotate_left
        · exact g1.elim
        obtain ⟨et, en, b_Tape_bytes⟩ := g1
        cases (et : t1 = 0)
        cases en
        cases h with
        | cons _ _ => exact hh.elim
        | nil =>
          rw [← e_Tape_size] at hP
          exact c_ncheckC hP

set_option maxRecDepth 100000 in
theorem c_ncheckR {l : Launch} {M_aside M_kept M_mintAt M_mintOf M_wholeOf M_isWall M_wasWall M_said M_waitsAt M_saidLetter M_saidFrom M_saidHalf M_saidTo M_codes M_clauseOf M_codeFrom M_codeHalf M_codeTo M_stack M_facts M_newStamps M_roundFrom M_roundAt M_roundTimes M_usesNow M_wasAt M_someOf M_fewestFor M_getsOf : List (Option Nat)} {M_stampMany M_taped M_place0 M_length0 M_fault M_number0 M_open M_codeMany M_waiting M_saidMany M_clauses M_newMany M_rounds M_stampFrom M_stampTimes M_lines M_spot0 M_pullAcross M_pullAlong M_stepsNow M_fallenNow M_isKept : Int32} {M_now M_tape : Nat → Int32}  {a : Int32} (hN : ¬ nd_check a M_taped) : MetP l 2 yX12_check cX12_check 3 (some .int) 0 0 [.inr (some (.inl 0)), .inl a] [.inr (11, [.inr (some (.inl 1)), .inr (some (.inr M_aside)), .inr (some (.inr M_kept)), .inr (some (.inr M_mintAt)), .inr (some (.inr M_mintOf)), .inr (some (.inr M_wholeOf)), .inr (some (.inr M_isWall)), .inr (some (.inr M_wasWall)), .inl M_stampMany, .inr (some (.inl 2)), .inl M_taped, .inl M_place0, .inl M_length0, .inl M_fault, .inl M_number0, .inl M_open, .inl M_codeMany, .inl M_waiting, .inl M_saidMany, .inl M_clauses, .inr (some (.inr M_said)), .inr (some (.inr M_waitsAt)), .inr (some (.inr M_saidLetter)), .inr (some (.inr M_saidFrom)), .inr (some (.inr M_saidHalf)), .inr (some (.inr M_saidTo)), .inr (some (.inr M_codes)), .inr (some (.inr M_clauseOf)), .inr (some (.inr M_codeFrom)), .inr (some (.inr M_codeHalf)), .inr (some (.inr M_codeTo)), .inr (some (.inr M_stack)), .inr (some (.inr M_facts)), .inr (some (.inr M_newStamps)), .inr (some (.inr M_roundFrom)), .inr (some (.inr M_roundAt)), .inr (some (.inr M_roundTimes)), .inl M_newMany, .inl M_rounds, .inl M_stampFrom, .inl M_stampTimes, .inl M_lines, .inl M_spot0, .inl M_pullAcross, .inl M_pullAlong, .inl M_stepsNow, .inl M_fallenNow, .inr (some (.inr M_usesNow)), .inr (some (.inr M_wasAt)), .inr (some (.inr M_someOf)), .inr (some (.inr M_fewestFor)), .inr (some (.inr M_getsOf)), .inl M_isKept]), .inl (0, 130, M_now), .inl (1, 260, M_tape)] (fun r h' => r = some (.inl (-2)) ∧ h' = [.inr (11, [.inr (some (.inl 1)), .inr (some (.inr M_aside)), .inr (some (.inr M_kept)), .inr (some (.inr M_mintAt)), .inr (some (.inr M_mintOf)), .inr (some (.inr M_wholeOf)), .inr (some (.inr M_isWall)), .inr (some (.inr M_wasWall)), .inl M_stampMany, .inr (some (.inl 2)), .inl M_taped, .inl M_place0, .inl M_length0, .inl M_fault, .inl M_number0, .inl M_open, .inl M_codeMany, .inl M_waiting, .inl M_saidMany, .inl M_clauses, .inr (some (.inr M_said)), .inr (some (.inr M_waitsAt)), .inr (some (.inr M_saidLetter)), .inr (some (.inr M_saidFrom)), .inr (some (.inr M_saidHalf)), .inr (some (.inr M_saidTo)), .inr (some (.inr M_codes)), .inr (some (.inr M_clauseOf)), .inr (some (.inr M_codeFrom)), .inr (some (.inr M_codeHalf)), .inr (some (.inr M_codeTo)), .inr (some (.inr M_stack)), .inr (some (.inr M_facts)), .inr (some (.inr M_newStamps)), .inr (some (.inr M_roundFrom)), .inr (some (.inr M_roundAt)), .inr (some (.inr M_roundTimes)), .inl M_newMany, .inl M_rounds, .inl M_stampFrom, .inl M_stampTimes, .inl M_lines, .inl M_spot0, .inl M_pullAcross, .inl M_pullAlong, .inl M_stepsNow, .inl M_fallenNow, .inr (some (.inr M_usesNow)), .inr (some (.inr M_wasAt)), .inr (some (.inr M_someOf)), .inr (some (.inr M_fewestFor)), .inr (some (.inr M_getsOf)), .inl M_isKept]), .inl (0, 130, M_now), .inl (1, 260, M_tape)]) := by
  refine m_X12_check (fun _ _ _ _ => False) (Nat.le_of_ble_eq_true rfl) ?_ (fun _ _ _ _ z => z.elim)
  refine call0 (c_in) rfl rfl ?_
  rintro r h' ⟨rfl, rfl⟩
  refine br_b (fun _ => ⟨rfl, rfl⟩) (fun g1 => ?_)
  exact And.intro (fun g => absurd ⟨g1, g⟩ hN) (fun _ => ⟨rfl, rfl⟩)
def HI_checkR : List AC := [.inr (11, [.inr (.inr (some (.inl 1))), .inr (.inr (some (.inr 0))), .inr (.inr (some (.inr 1))), .inr (.inr (some (.inr 2))), .inr (.inr (some (.inr 3))), .inr (.inr (some (.inr 4))), .inr (.inr (some (.inr 5))), .inr (.inr (some (.inr 6))), .inr (.inr (some (.inr 205))), .inr (.inr (some (.inl 2))), .inr (.inr (some (.inr 202))), .inl (0, 240), .inl (0, 240), .inl (-2147483648, 2147483647), .inl (-2147483648, 2147483647), .inl (-2147483648, 2147483647), .inl (0, 260), .inl (0, 260), .inl (0, 16), .inr (.inr (some (.inr 200))), .inr (.inr (some (.inr 7))), .inr (.inr (some (.inr 8))), .inr (.inr (some (.inr 9))), .inr (.inr (some (.inr 10))), .inr (.inr (some (.inr 11))), .inr (.inr (some (.inr 12))), .inr (.inr (some (.inr 13))), .inr (.inr (some (.inr 14))), .inr (.inr (some (.inr 15))), .inr (.inr (some (.inr 16))), .inr (.inr (some (.inr 17))), .inr (.inr (some (.inr 18))), .inr (.inr (some (.inr 19))), .inr (.inr (some (.inr 20))), .inr (.inr (some (.inr 21))), .inr (.inr (some (.inr 22))), .inr (.inr (some (.inr 23))), .inl (-2147483648, 2147483647), .inl (-2147483648, 2147483647), .inl (-2147483648, 2147483647), .inl (-2147483648, 2147483647), .inl (-2147483648, 2147483647), .inl (-2147483648, 2147483647), .inl (-2147483648, 2147483647), .inl (-2147483648, 2147483647), .inl (-2147483648, 2147483647), .inl (-2147483648, 2147483647), .inr (.inr (some (.inr 24))), .inr (.inr (some (.inr 25))), .inr (.inr (some (.inr 26))), .inr (.inr (some (.inr 27))), .inr (.inr (some (.inr 28))), .inr (.inr (some (.inr 201)))]), .inl (600, 130, 0, 383), .inl (1005, 260, -128, 127)]
set_option maxRecDepth 100000 in
theorem i_ncheckR {l : Launch} {a : Int32} : conOkI (MetP l 2 yX12_check cX12_check 3 (some .int) 0 0) [a] (-2) HI_checkR (fun τ => ¬ nd_check a (decA (τ 202) 0)) := by
  intro τ hΦ hP h hh
  have hP : ¬ nd_check a (decA (τ 202) 0) := hP
  have z := all2_cons hh
  clear hh
  obtain ⟨e0, h, rfl, g0, hh⟩ := z
  rcases e0 with ⟨t0, n0, f0⟩ | ⟨ci, fs⟩
  · exact g0.elim
  obtain ⟨rfl, gf⟩ := g0
  have z := all2_cons gf
  clear gf
  obtain ⟨v0, fs, rfl, q0, gf⟩ := z
  cases (q0 : v0 = .inr (some (.inl 1)))
  have z := all2_cons gf
  clear gf
  obtain ⟨v0, fs, rfl, q0, gf⟩ := z
  cases gT_r (τ := τ) (t := 0) (v := v0) rfl q0
  have z := all2_cons gf
  clear gf
  obtain ⟨v0, fs, rfl, q0, gf⟩ := z
  cases gT_r (τ := τ) (t := 1) (v := v0) rfl q0
  have z := all2_cons gf
  clear gf
  obtain ⟨v0, fs, rfl, q0, gf⟩ := z
  cases gT_r (τ := τ) (t := 2) (v := v0) rfl q0
  have z := all2_cons gf
  clear gf
  obtain ⟨v0, fs, rfl, q0, gf⟩ := z
  cases gT_r (τ := τ) (t := 3) (v := v0) rfl q0
  have z := all2_cons gf
  clear gf
  obtain ⟨v0, fs, rfl, q0, gf⟩ := z
  cases gT_r (τ := τ) (t := 4) (v := v0) rfl q0
  have z := all2_cons gf
  clear gf
  obtain ⟨v0, fs, rfl, q0, gf⟩ := z
  cases gT_r (τ := τ) (t := 5) (v := v0) rfl q0
  have z := all2_cons gf
  clear gf
  obtain ⟨v0, fs, rfl, q0, gf⟩ := z
  cases gT_r (τ := τ) (t := 6) (v := v0) rfl q0
  have z := all2_cons gf
  clear gf
  obtain ⟨v0, fs, rfl, q0, gf⟩ := z
  obtain ⟨M_stampMany, rfl, e_M_stampMany, b_M_stampMany⟩ := gT_x (τ := τ) (t := 205) (v := v0) rfl q0
  have z := all2_cons gf
  clear gf
  obtain ⟨v0, fs, rfl, q0, gf⟩ := z
  cases (q0 : v0 = .inr (some (.inl 2)))
  have z := all2_cons gf
  clear gf
  obtain ⟨v0, fs, rfl, q0, gf⟩ := z
  obtain ⟨M_taped, rfl, e_M_taped, b_M_taped⟩ := gT_x (τ := τ) (t := 202) (v := v0) rfl q0
  have z := all2_cons gf
  clear gf
  obtain ⟨v0, fs, rfl, q0, gf⟩ := z
  obtain ⟨M_place0, rfl, b_M_place0⟩ := q0
  have z := all2_cons gf
  clear gf
  obtain ⟨v0, fs, rfl, q0, gf⟩ := z
  obtain ⟨M_length0, rfl, b_M_length0⟩ := q0
  have z := all2_cons gf
  clear gf
  obtain ⟨v0, fs, rfl, q0, gf⟩ := z
  obtain ⟨M_fault, rfl, b_M_fault⟩ := q0
  have z := all2_cons gf
  clear gf
  obtain ⟨v0, fs, rfl, q0, gf⟩ := z
  obtain ⟨M_number0, rfl, b_M_number0⟩ := q0
  have z := all2_cons gf
  clear gf
  obtain ⟨v0, fs, rfl, q0, gf⟩ := z
  obtain ⟨M_open, rfl, b_M_open⟩ := q0
  have z := all2_cons gf
  clear gf
  obtain ⟨v0, fs, rfl, q0, gf⟩ := z
  obtain ⟨M_codeMany, rfl, b_M_codeMany⟩ := q0
  have z := all2_cons gf
  clear gf
  obtain ⟨v0, fs, rfl, q0, gf⟩ := z
  obtain ⟨M_waiting, rfl, b_M_waiting⟩ := q0
  have z := all2_cons gf
  clear gf
  obtain ⟨v0, fs, rfl, q0, gf⟩ := z
  obtain ⟨M_saidMany, rfl, b_M_saidMany⟩ := q0
  have z := all2_cons gf
  clear gf
  obtain ⟨v0, fs, rfl, q0, gf⟩ := z
  obtain ⟨M_clauses, rfl, e_M_clauses, b_M_clauses⟩ := gT_x (τ := τ) (t := 200) (v := v0) rfl q0
  have z := all2_cons gf
  clear gf
  obtain ⟨v0, fs, rfl, q0, gf⟩ := z
  cases gT_r (τ := τ) (t := 7) (v := v0) rfl q0
  have z := all2_cons gf
  clear gf
  obtain ⟨v0, fs, rfl, q0, gf⟩ := z
  cases gT_r (τ := τ) (t := 8) (v := v0) rfl q0
  have z := all2_cons gf
  clear gf
  obtain ⟨v0, fs, rfl, q0, gf⟩ := z
  cases gT_r (τ := τ) (t := 9) (v := v0) rfl q0
  have z := all2_cons gf
  clear gf
  obtain ⟨v0, fs, rfl, q0, gf⟩ := z
  cases gT_r (τ := τ) (t := 10) (v := v0) rfl q0
  have z := all2_cons gf
  clear gf
  obtain ⟨v0, fs, rfl, q0, gf⟩ := z
  cases gT_r (τ := τ) (t := 11) (v := v0) rfl q0
  have z := all2_cons gf
  clear gf
  obtain ⟨v0, fs, rfl, q0, gf⟩ := z
  cases gT_r (τ := τ) (t := 12) (v := v0) rfl q0
  have z := all2_cons gf
  clear gf
  obtain ⟨v0, fs, rfl, q0, gf⟩ := z
  cases gT_r (τ := τ) (t := 13) (v := v0) rfl q0
  have z := all2_cons gf
  clear gf
  obtain ⟨v0, fs, rfl, q0, gf⟩ := z
  cases gT_r (τ := τ) (t := 14) (v := v0) rfl q0
  have z := all2_cons gf
  clear gf
  obtain ⟨v0, fs, rfl, q0, gf⟩ := z
  cases gT_r (τ := τ) (t := 15) (v := v0) rfl q0
  have z := all2_cons gf
  clear gf
  obtain ⟨v0, fs, rfl, q0, gf⟩ := z
  cases gT_r (τ := τ) (t := 16) (v := v0) rfl q0
  have z := all2_cons gf
  clear gf
  obtain ⟨v0, fs, rfl, q0, gf⟩ := z
  cases gT_r (τ := τ) (t := 17) (v := v0) rfl q0
  have z := all2_cons gf
  clear gf
  obtain ⟨v0, fs, rfl, q0, gf⟩ := z
  cases gT_r (τ := τ) (t := 18) (v := v0) rfl q0
  have z := all2_cons gf
  clear gf
  obtain ⟨v0, fs, rfl, q0, gf⟩ := z
  cases gT_r (τ := τ) (t := 19) (v := v0) rfl q0
  have z := all2_cons gf
  clear gf
  obtain ⟨v0, fs, rfl, q0, gf⟩ := z
  cases gT_r (τ := τ) (t := 20) (v := v0) rfl q0
  have z := all2_cons gf
  clear gf
  obtain ⟨v0, fs, rfl, q0, gf⟩ := z
  cases gT_r (τ := τ) (t := 21) (v := v0) rfl q0
  have z := all2_cons gf
  clear gf
  obtain ⟨v0, fs, rfl, q0, gf⟩ := z
  cases gT_r (τ := τ) (t := 22) (v := v0) rfl q0
  have z := all2_cons gf
  clear gf
  obtain ⟨v0, fs, rfl, q0, gf⟩ := z
  cases gT_r (τ := τ) (t := 23) (v := v0) rfl q0
  have z := all2_cons gf
  clear gf
  obtain ⟨v0, fs, rfl, q0, gf⟩ := z
  obtain ⟨M_newMany, rfl, b_M_newMany⟩ := q0
  have z := all2_cons gf
  clear gf
  obtain ⟨v0, fs, rfl, q0, gf⟩ := z
  obtain ⟨M_rounds, rfl, b_M_rounds⟩ := q0
  have z := all2_cons gf
  clear gf
  obtain ⟨v0, fs, rfl, q0, gf⟩ := z
  obtain ⟨M_stampFrom, rfl, b_M_stampFrom⟩ := q0
  have z := all2_cons gf
  clear gf
  obtain ⟨v0, fs, rfl, q0, gf⟩ := z
  obtain ⟨M_stampTimes, rfl, b_M_stampTimes⟩ := q0
  have z := all2_cons gf
  clear gf
  obtain ⟨v0, fs, rfl, q0, gf⟩ := z
  obtain ⟨M_lines, rfl, b_M_lines⟩ := q0
  have z := all2_cons gf
  clear gf
  obtain ⟨v0, fs, rfl, q0, gf⟩ := z
  obtain ⟨M_spot0, rfl, b_M_spot0⟩ := q0
  have z := all2_cons gf
  clear gf
  obtain ⟨v0, fs, rfl, q0, gf⟩ := z
  obtain ⟨M_pullAcross, rfl, b_M_pullAcross⟩ := q0
  have z := all2_cons gf
  clear gf
  obtain ⟨v0, fs, rfl, q0, gf⟩ := z
  obtain ⟨M_pullAlong, rfl, b_M_pullAlong⟩ := q0
  have z := all2_cons gf
  clear gf
  obtain ⟨v0, fs, rfl, q0, gf⟩ := z
  obtain ⟨M_stepsNow, rfl, b_M_stepsNow⟩ := q0
  have z := all2_cons gf
  clear gf
  obtain ⟨v0, fs, rfl, q0, gf⟩ := z
  obtain ⟨M_fallenNow, rfl, b_M_fallenNow⟩ := q0
  have z := all2_cons gf
  clear gf
  obtain ⟨v0, fs, rfl, q0, gf⟩ := z
  cases gT_r (τ := τ) (t := 24) (v := v0) rfl q0
  have z := all2_cons gf
  clear gf
  obtain ⟨v0, fs, rfl, q0, gf⟩ := z
  cases gT_r (τ := τ) (t := 25) (v := v0) rfl q0
  have z := all2_cons gf
  clear gf
  obtain ⟨v0, fs, rfl, q0, gf⟩ := z
  cases gT_r (τ := τ) (t := 26) (v := v0) rfl q0
  have z := all2_cons gf
  clear gf
  obtain ⟨v0, fs, rfl, q0, gf⟩ := z
  cases gT_r (τ := τ) (t := 27) (v := v0) rfl q0
  have z := all2_cons gf
  clear gf
  obtain ⟨v0, fs, rfl, q0, gf⟩ := z
  cases gT_r (τ := τ) (t := 28) (v := v0) rfl q0
  have z := all2_cons gf
  clear gf
  obtain ⟨v0, fs, rfl, q0, gf⟩ := z
  obtain ⟨M_isKept, rfl, e_M_isKept, b_M_isKept⟩ := gT_x (τ := τ) (t := 201) (v := v0) rfl q0
  cases fs with
  | cons _ _ => exact gf.elim
  | nil =>
    have z := all2_cons hh
    clear hh
    obtain ⟨e1, h, rfl, g1, hh⟩ := z
    rcases e1 with ⟨t1, n1, M_now⟩ | ⟨ci, fs⟩
    rotate_left
    · exact g1.elim
    obtain ⟨et, en, b_M_now⟩ := g1
    cases (et : t1 = 0)
    cases en
    have z := all2_cons hh
    clear hh
    obtain ⟨e1, h, rfl, g1, hh⟩ := z
    rcases e1 with ⟨t1, n1, M_tape⟩ | ⟨ci, fs⟩
    rotate_left
    · exact g1.elim
    obtain ⟨et, en, b_M_tape⟩ := g1
    cases (et : t1 = 1)
    cases en
    cases h with
    | cons _ _ => exact hh.elim
    | nil =>
      rw [← e_M_taped] at hP
      exact c_ncheckR hP

def nd_printed (a s : Int32) : Prop := (1 ≤ a ∧ a ≤ 10) ∧ f_mul 3 a ≤ s
set_option maxRecDepth 100000 in
theorem c_nprintedC {l : Launch} {HS_now HS_kept HS_trial HS_clerk HS_crew HS_riddles HS_sheetReader HS_postReader HS_lawReader HS_seen HS_rules HS_spareRules : List (Option Nat)} {HS_wasKept Tape_size Rep_toldMints Rep_walls Rep_stamps : Int32} {Tape_bytes Rep_mintX Rep_mintY Rep_wall Rep_mintOf Rep_grainsOf : Nat → Int32}  {a : Int32} (hN : ¬ nd_printed a Tape_size) : MetP l 3 yX11_printed cX11_printed 4 (some .int) 0 0 [.inr (some (.inl 0)), .inl a] [.inr (10, [.inr (some (.inl 1)), .inr (some (.inl 3)), .inr (some (.inr HS_now)), .inr (some (.inr HS_kept)), .inr (some (.inr HS_trial)), .inr (some (.inr HS_clerk)), .inr (some (.inr HS_crew)), .inr (some (.inr HS_riddles)), .inr (some (.inr HS_sheetReader)), .inr (some (.inr HS_postReader)), .inr (some (.inr HS_lawReader)), .inr (some (.inr HS_seen)), .inr (some (.inr HS_rules)), .inr (some (.inr HS_spareRules)), .inl HS_wasKept]), .inr (9, [.inr (some (.inl 2)), .inl Tape_size]), .inl (0, 260, Tape_bytes), .inr (6, [.inr (some (.inl 4)), .inr (some (.inl 5)), .inr (some (.inl 6)), .inr (some (.inl 7)), .inr (some (.inl 8)), .inl Rep_toldMints, .inl Rep_walls, .inl Rep_stamps]), .inl (0, 8, Rep_mintX), .inl (0, 8, Rep_mintY), .inl (2, 384, Rep_wall), .inl (0, 48, Rep_mintOf), .inl (0, 48, Rep_grainsOf)] (fun r h' => r = some (.inl (-1)) ∧ h' = [.inr (10, [.inr (some (.inl 1)), .inr (some (.inl 3)), .inr (some (.inr HS_now)), .inr (some (.inr HS_kept)), .inr (some (.inr HS_trial)), .inr (some (.inr HS_clerk)), .inr (some (.inr HS_crew)), .inr (some (.inr HS_riddles)), .inr (some (.inr HS_sheetReader)), .inr (some (.inr HS_postReader)), .inr (some (.inr HS_lawReader)), .inr (some (.inr HS_seen)), .inr (some (.inr HS_rules)), .inr (some (.inr HS_spareRules)), .inl HS_wasKept]), .inr (9, [.inr (some (.inl 2)), .inl Tape_size]), .inl (0, 260, Tape_bytes), .inr (6, [.inr (some (.inl 4)), .inr (some (.inl 5)), .inr (some (.inl 6)), .inr (some (.inl 7)), .inr (some (.inl 8)), .inl Rep_toldMints, .inl Rep_walls, .inl Rep_stamps]), .inl (0, 8, Rep_mintX), .inl (0, 8, Rep_mintY), .inl (2, 384, Rep_wall), .inl (0, 48, Rep_mintOf), .inl (0, 48, Rep_grainsOf)]) := by
  refine m_X11_printed (fun _ _ _ _ => False) (Nat.le_of_ble_eq_true rfl) ?_ (fun _ _ _ _ z => z.elim)
  refine call0 (c_within) rfl rfl ?_
  rintro r h' ⟨rfl, rfl⟩
  refine br_b (fun _ => ⟨rfl, rfl⟩) (fun g1 => ?_)
  refine call0 (c_canGive) rfl rfl ?_
  rintro r h' ⟨rfl, rfl⟩
  exact br_b (fun _ => ⟨rfl, rfl⟩) (fun g => absurd ⟨g1, g.2⟩ hN)
def HI_printedC : List AC := [.inr (10, [.inr (.inr (some (.inl 1))), .inr (.inr (some (.inl 3))), .inr (.inr (some (.inr 0))), .inr (.inr (some (.inr 1))), .inr (.inr (some (.inr 2))), .inr (.inr (some (.inr 3))), .inr (.inr (some (.inr 4))), .inr (.inr (some (.inr 5))), .inr (.inr (some (.inr 6))), .inr (.inr (some (.inr 7))), .inr (.inr (some (.inr 8))), .inr (.inr (some (.inr 9))), .inr (.inr (some (.inr 10))), .inr (.inr (some (.inr 11))), .inr (.inr (some (.inr 201)))]), .inr (9, [.inr (.inr (some (.inl 2))), .inr (.inr (some (.inr 202)))]), .inl (1000, 260, 0, 255), .inr (6, [.inr (.inr (some (.inl 4))), .inr (.inr (some (.inl 5))), .inr (.inr (some (.inl 6))), .inr (.inr (some (.inl 7))), .inr (.inr (some (.inl 8))), .inr (.inr (some (.inr 203))), .inl (-2147483648, 2147483647), .inr (.inr (some (.inr 204)))]), .inl (1008, 8, -2147483648, 2147483647), .inl (1012, 8, -2147483648, 2147483647), .inl (1054, 384, 0, 1), .inl (1020, 48, -2147483648, 2147483647), .inl (1024, 48, -2147483648, 2147483647)]
set_option maxRecDepth 100000 in
theorem i_nprintedC {l : Launch} {a : Int32} : conOkI (MetP l 3 yX11_printed cX11_printed 4 (some .int) 0 0) [a] (-1) HI_printedC (fun τ => ¬ nd_printed a (decA (τ 202) 0)) := by
  intro τ hΦ hP h hh
  have hP : ¬ nd_printed a (decA (τ 202) 0) := hP
  have z := all2_cons hh
  clear hh
  obtain ⟨e0, h, rfl, g0, hh⟩ := z
  rcases e0 with ⟨t0, n0, f0⟩ | ⟨ci, fs⟩
  · exact g0.elim
  obtain ⟨rfl, gf⟩ := g0
  have z := all2_cons gf
  clear gf
  obtain ⟨v0, fs, rfl, q0, gf⟩ := z
  cases (q0 : v0 = .inr (some (.inl 1)))
  have z := all2_cons gf
  clear gf
  obtain ⟨v0, fs, rfl, q0, gf⟩ := z
  cases (q0 : v0 = .inr (some (.inl 3)))
  have z := all2_cons gf
  clear gf
  obtain ⟨v0, fs, rfl, q0, gf⟩ := z
  cases gT_r (τ := τ) (t := 0) (v := v0) rfl q0
  have z := all2_cons gf
  clear gf
  obtain ⟨v0, fs, rfl, q0, gf⟩ := z
  cases gT_r (τ := τ) (t := 1) (v := v0) rfl q0
  have z := all2_cons gf
  clear gf
  obtain ⟨v0, fs, rfl, q0, gf⟩ := z
  cases gT_r (τ := τ) (t := 2) (v := v0) rfl q0
  have z := all2_cons gf
  clear gf
  obtain ⟨v0, fs, rfl, q0, gf⟩ := z
  cases gT_r (τ := τ) (t := 3) (v := v0) rfl q0
  have z := all2_cons gf
  clear gf
  obtain ⟨v0, fs, rfl, q0, gf⟩ := z
  cases gT_r (τ := τ) (t := 4) (v := v0) rfl q0
  have z := all2_cons gf
  clear gf
  obtain ⟨v0, fs, rfl, q0, gf⟩ := z
  cases gT_r (τ := τ) (t := 5) (v := v0) rfl q0
  have z := all2_cons gf
  clear gf
  obtain ⟨v0, fs, rfl, q0, gf⟩ := z
  cases gT_r (τ := τ) (t := 6) (v := v0) rfl q0
  have z := all2_cons gf
  clear gf
  obtain ⟨v0, fs, rfl, q0, gf⟩ := z
  cases gT_r (τ := τ) (t := 7) (v := v0) rfl q0
  have z := all2_cons gf
  clear gf
  obtain ⟨v0, fs, rfl, q0, gf⟩ := z
  cases gT_r (τ := τ) (t := 8) (v := v0) rfl q0
  have z := all2_cons gf
  clear gf
  obtain ⟨v0, fs, rfl, q0, gf⟩ := z
  cases gT_r (τ := τ) (t := 9) (v := v0) rfl q0
  have z := all2_cons gf
  clear gf
  obtain ⟨v0, fs, rfl, q0, gf⟩ := z
  cases gT_r (τ := τ) (t := 10) (v := v0) rfl q0
  have z := all2_cons gf
  clear gf
  obtain ⟨v0, fs, rfl, q0, gf⟩ := z
  cases gT_r (τ := τ) (t := 11) (v := v0) rfl q0
  have z := all2_cons gf
  clear gf
  obtain ⟨v0, fs, rfl, q0, gf⟩ := z
  obtain ⟨HS_wasKept, rfl, e_HS_wasKept, b_HS_wasKept⟩ := gT_x (τ := τ) (t := 201) (v := v0) rfl q0
  cases fs with
  | cons _ _ => exact gf.elim
  | nil =>
    have z := all2_cons hh
    clear hh
    obtain ⟨e0, h, rfl, g0, hh⟩ := z
    rcases e0 with ⟨t0, n0, f0⟩ | ⟨ci, fs⟩
    · exact g0.elim
    obtain ⟨rfl, gf⟩ := g0
    have z := all2_cons gf
    clear gf
    obtain ⟨v0, fs, rfl, q0, gf⟩ := z
    cases (q0 : v0 = .inr (some (.inl 2)))
    have z := all2_cons gf
    clear gf
    obtain ⟨v0, fs, rfl, q0, gf⟩ := z
    obtain ⟨Tape_size, rfl, e_Tape_size, b_Tape_size⟩ := gT_x (τ := τ) (t := 202) (v := v0) rfl q0
    cases fs with
    | cons _ _ => exact gf.elim
    | nil =>
      have z := all2_cons hh
      clear hh
      obtain ⟨e1, h, rfl, g1, hh⟩ := z
      rcases e1 with ⟨t1, n1, Tape_bytes⟩ | ⟨ci, fs⟩
      rotate_left
      · exact g1.elim
      obtain ⟨et, en, b_Tape_bytes⟩ := g1
      cases (et : t1 = 0)
      cases en
      have z := all2_cons hh
      clear hh
      obtain ⟨e0, h, rfl, g0, hh⟩ := z
      rcases e0 with ⟨t0, n0, f0⟩ | ⟨ci, fs⟩
      · exact g0.elim
      obtain ⟨rfl, gf⟩ := g0
      have z := all2_cons gf
      clear gf
      obtain ⟨v0, fs, rfl, q0, gf⟩ := z
      cases (q0 : v0 = .inr (some (.inl 4)))
      have z := all2_cons gf
      clear gf
      obtain ⟨v0, fs, rfl, q0, gf⟩ := z
      cases (q0 : v0 = .inr (some (.inl 5)))
      have z := all2_cons gf
      clear gf
      obtain ⟨v0, fs, rfl, q0, gf⟩ := z
      cases (q0 : v0 = .inr (some (.inl 6)))
      have z := all2_cons gf
      clear gf
      obtain ⟨v0, fs, rfl, q0, gf⟩ := z
      cases (q0 : v0 = .inr (some (.inl 7)))
      have z := all2_cons gf
      clear gf
      obtain ⟨v0, fs, rfl, q0, gf⟩ := z
      cases (q0 : v0 = .inr (some (.inl 8)))
      have z := all2_cons gf
      clear gf
      obtain ⟨v0, fs, rfl, q0, gf⟩ := z
      obtain ⟨Rep_toldMints, rfl, e_Rep_toldMints, b_Rep_toldMints⟩ := gT_x (τ := τ) (t := 203) (v := v0) rfl q0
      have z := all2_cons gf
      clear gf
      obtain ⟨v0, fs, rfl, q0, gf⟩ := z
      obtain ⟨Rep_walls, rfl, b_Rep_walls⟩ := q0
      have z := all2_cons gf
      clear gf
      obtain ⟨v0, fs, rfl, q0, gf⟩ := z
      obtain ⟨Rep_stamps, rfl, e_Rep_stamps, b_Rep_stamps⟩ := gT_x (τ := τ) (t := 204) (v := v0) rfl q0
      cases fs with
      | cons _ _ => exact gf.elim
      | nil =>
        have z := all2_cons hh
        clear hh
        obtain ⟨e1, h, rfl, g1, hh⟩ := z
        rcases e1 with ⟨t1, n1, Rep_mintX⟩ | ⟨ci, fs⟩
        rotate_left
        · exact g1.elim
        obtain ⟨et, en, b_Rep_mintX⟩ := g1
        cases (et : t1 = 0)
        cases en
        have z := all2_cons hh
        clear hh
        obtain ⟨e1, h, rfl, g1, hh⟩ := z
        rcases e1 with ⟨t1, n1, Rep_mintY⟩ | ⟨ci, fs⟩
        rotate_left
        · exact g1.elim
        obtain ⟨et, en, b_Rep_mintY⟩ := g1
        cases (et : t1 = 0)
        cases en
        have z := all2_cons hh
        clear hh
        obtain ⟨e1, h, rfl, g1, hh⟩ := z
        rcases e1 with ⟨t1, n1, Rep_wall⟩ | ⟨ci, fs⟩
        rotate_left
        · exact g1.elim
        obtain ⟨et, en, b_Rep_wall⟩ := g1
        cases (et : t1 = 2)
        cases en
        have z := all2_cons hh
        clear hh
        obtain ⟨e1, h, rfl, g1, hh⟩ := z
        rcases e1 with ⟨t1, n1, Rep_mintOf⟩ | ⟨ci, fs⟩
        rotate_left
        · exact g1.elim
        obtain ⟨et, en, b_Rep_mintOf⟩ := g1
        cases (et : t1 = 0)
        cases en
        have z := all2_cons hh
        clear hh
        obtain ⟨e1, h, rfl, g1, hh⟩ := z
        rcases e1 with ⟨t1, n1, Rep_grainsOf⟩ | ⟨ci, fs⟩
        rotate_left
        · exact g1.elim
        obtain ⟨et, en, b_Rep_grainsOf⟩ := g1
        cases (et : t1 = 0)
        cases en
        cases h with
        | cons _ _ => exact hh.elim
        | nil =>
          rw [← e_Tape_size] at hP
          exact c_nprintedC hP

set_option maxRecDepth 100000 in
theorem c_nprintedR {l : Launch} {M_now M_aside M_kept M_mintOf M_wholeOf M_isWall M_wasWall M_said M_waitsAt M_saidLetter M_saidFrom M_saidHalf M_saidTo M_codes M_clauseOf M_codeFrom M_codeHalf M_codeTo M_stack M_facts M_newStamps M_roundFrom M_roundAt M_roundTimes M_usesNow M_wasAt M_someOf M_fewestFor M_getsOf : List (Option Nat)} {M_stampMany M_taped M_place0 M_length0 M_fault M_number0 M_open M_codeMany M_waiting M_saidMany M_clauses M_newMany M_rounds M_stampFrom M_stampTimes M_lines M_spot0 M_pullAcross M_pullAlong M_stepsNow M_fallenNow M_isKept : Int32} {M_mintAt M_tape : Nat → Int32}  {a : Int32} (hN : ¬ nd_printed a M_taped) : MetP l 2 yX12_printed cX12_printed 6 (some .int) 0 0 [.inr (some (.inl 0)), .inl a] [.inr (11, [.inr (some (.inr M_now)), .inr (some (.inr M_aside)), .inr (some (.inr M_kept)), .inr (some (.inl 1)), .inr (some (.inr M_mintOf)), .inr (some (.inr M_wholeOf)), .inr (some (.inr M_isWall)), .inr (some (.inr M_wasWall)), .inl M_stampMany, .inr (some (.inl 2)), .inl M_taped, .inl M_place0, .inl M_length0, .inl M_fault, .inl M_number0, .inl M_open, .inl M_codeMany, .inl M_waiting, .inl M_saidMany, .inl M_clauses, .inr (some (.inr M_said)), .inr (some (.inr M_waitsAt)), .inr (some (.inr M_saidLetter)), .inr (some (.inr M_saidFrom)), .inr (some (.inr M_saidHalf)), .inr (some (.inr M_saidTo)), .inr (some (.inr M_codes)), .inr (some (.inr M_clauseOf)), .inr (some (.inr M_codeFrom)), .inr (some (.inr M_codeHalf)), .inr (some (.inr M_codeTo)), .inr (some (.inr M_stack)), .inr (some (.inr M_facts)), .inr (some (.inr M_newStamps)), .inr (some (.inr M_roundFrom)), .inr (some (.inr M_roundAt)), .inr (some (.inr M_roundTimes)), .inl M_newMany, .inl M_rounds, .inl M_stampFrom, .inl M_stampTimes, .inl M_lines, .inl M_spot0, .inl M_pullAcross, .inl M_pullAlong, .inl M_stepsNow, .inl M_fallenNow, .inr (some (.inr M_usesNow)), .inr (some (.inr M_wasAt)), .inr (some (.inr M_someOf)), .inr (some (.inr M_fewestFor)), .inr (some (.inr M_getsOf)), .inl M_isKept]), .inl (0, 8, M_mintAt), .inl (1, 260, M_tape)] (fun r h' => r = some (.inl (-1)) ∧ h' = [.inr (11, [.inr (some (.inr M_now)), .inr (some (.inr M_aside)), .inr (some (.inr M_kept)), .inr (some (.inl 1)), .inr (some (.inr M_mintOf)), .inr (some (.inr M_wholeOf)), .inr (some (.inr M_isWall)), .inr (some (.inr M_wasWall)), .inl M_stampMany, .inr (some (.inl 2)), .inl M_taped, .inl M_place0, .inl M_length0, .inl M_fault, .inl M_number0, .inl M_open, .inl M_codeMany, .inl M_waiting, .inl M_saidMany, .inl M_clauses, .inr (some (.inr M_said)), .inr (some (.inr M_waitsAt)), .inr (some (.inr M_saidLetter)), .inr (some (.inr M_saidFrom)), .inr (some (.inr M_saidHalf)), .inr (some (.inr M_saidTo)), .inr (some (.inr M_codes)), .inr (some (.inr M_clauseOf)), .inr (some (.inr M_codeFrom)), .inr (some (.inr M_codeHalf)), .inr (some (.inr M_codeTo)), .inr (some (.inr M_stack)), .inr (some (.inr M_facts)), .inr (some (.inr M_newStamps)), .inr (some (.inr M_roundFrom)), .inr (some (.inr M_roundAt)), .inr (some (.inr M_roundTimes)), .inl M_newMany, .inl M_rounds, .inl M_stampFrom, .inl M_stampTimes, .inl M_lines, .inl M_spot0, .inl M_pullAcross, .inl M_pullAlong, .inl M_stepsNow, .inl M_fallenNow, .inr (some (.inr M_usesNow)), .inr (some (.inr M_wasAt)), .inr (some (.inr M_someOf)), .inr (some (.inr M_fewestFor)), .inr (some (.inr M_getsOf)), .inl M_isKept]), .inl (0, 8, M_mintAt), .inl (1, 260, M_tape)]) := by
  refine m_X12_printed (fun _ _ _ _ => False) (fun _ _ _ _ => False) (Nat.le_of_ble_eq_true rfl) ?_ (fun _ _ _ _ z => z.elim) (fun _ _ _ _ z => z.elim)
  refine call0 (c_in) rfl rfl ?_
  rintro r h' ⟨rfl, rfl⟩
  refine br_b (fun _ => ⟨rfl, rfl⟩) (fun g1 => ?_)
  exact And.intro (fun g => absurd ⟨g1, g⟩ hN) (fun _ => ⟨rfl, rfl⟩)
def HI_printedR : List AC := [.inr (11, [.inr (.inr (some (.inr 0))), .inr (.inr (some (.inr 1))), .inr (.inr (some (.inr 2))), .inr (.inr (some (.inl 1))), .inr (.inr (some (.inr 3))), .inr (.inr (some (.inr 4))), .inr (.inr (some (.inr 5))), .inr (.inr (some (.inr 6))), .inr (.inr (some (.inr 205))), .inr (.inr (some (.inl 2))), .inr (.inr (some (.inr 202))), .inl (0, 240), .inl (0, 240), .inl (-2147483648, 2147483647), .inl (-2147483648, 2147483647), .inl (-2147483648, 2147483647), .inl (0, 260), .inl (0, 260), .inl (0, 16), .inr (.inr (some (.inr 200))), .inr (.inr (some (.inr 7))), .inr (.inr (some (.inr 8))), .inr (.inr (some (.inr 9))), .inr (.inr (some (.inr 10))), .inr (.inr (some (.inr 11))), .inr (.inr (some (.inr 12))), .inr (.inr (some (.inr 13))), .inr (.inr (some (.inr 14))), .inr (.inr (some (.inr 15))), .inr (.inr (some (.inr 16))), .inr (.inr (some (.inr 17))), .inr (.inr (some (.inr 18))), .inr (.inr (some (.inr 19))), .inr (.inr (some (.inr 20))), .inr (.inr (some (.inr 21))), .inr (.inr (some (.inr 22))), .inr (.inr (some (.inr 23))), .inl (-2147483648, 2147483647), .inl (-2147483648, 2147483647), .inl (-2147483648, 2147483647), .inl (-2147483648, 2147483647), .inl (-2147483648, 2147483647), .inl (-2147483648, 2147483647), .inl (-2147483648, 2147483647), .inl (-2147483648, 2147483647), .inl (-2147483648, 2147483647), .inl (-2147483648, 2147483647), .inr (.inr (some (.inr 24))), .inr (.inr (some (.inr 25))), .inr (.inr (some (.inr 26))), .inr (.inr (some (.inr 27))), .inr (.inr (some (.inr 28))), .inr (.inr (some (.inr 201)))]), .inl (1016, 8, -1, 383), .inl (1005, 260, -128, 127)]
set_option maxRecDepth 100000 in
theorem i_nprintedR {l : Launch} {a : Int32} : conOkI (MetP l 2 yX12_printed cX12_printed 6 (some .int) 0 0) [a] (-1) HI_printedR (fun τ => ¬ nd_printed a (decA (τ 202) 0)) := by
  intro τ hΦ hP h hh
  have hP : ¬ nd_printed a (decA (τ 202) 0) := hP
  have z := all2_cons hh
  clear hh
  obtain ⟨e0, h, rfl, g0, hh⟩ := z
  rcases e0 with ⟨t0, n0, f0⟩ | ⟨ci, fs⟩
  · exact g0.elim
  obtain ⟨rfl, gf⟩ := g0
  have z := all2_cons gf
  clear gf
  obtain ⟨v0, fs, rfl, q0, gf⟩ := z
  cases gT_r (τ := τ) (t := 0) (v := v0) rfl q0
  have z := all2_cons gf
  clear gf
  obtain ⟨v0, fs, rfl, q0, gf⟩ := z
  cases gT_r (τ := τ) (t := 1) (v := v0) rfl q0
  have z := all2_cons gf
  clear gf
  obtain ⟨v0, fs, rfl, q0, gf⟩ := z
  cases gT_r (τ := τ) (t := 2) (v := v0) rfl q0
  have z := all2_cons gf
  clear gf
  obtain ⟨v0, fs, rfl, q0, gf⟩ := z
  cases (q0 : v0 = .inr (some (.inl 1)))
  have z := all2_cons gf
  clear gf
  obtain ⟨v0, fs, rfl, q0, gf⟩ := z
  cases gT_r (τ := τ) (t := 3) (v := v0) rfl q0
  have z := all2_cons gf
  clear gf
  obtain ⟨v0, fs, rfl, q0, gf⟩ := z
  cases gT_r (τ := τ) (t := 4) (v := v0) rfl q0
  have z := all2_cons gf
  clear gf
  obtain ⟨v0, fs, rfl, q0, gf⟩ := z
  cases gT_r (τ := τ) (t := 5) (v := v0) rfl q0
  have z := all2_cons gf
  clear gf
  obtain ⟨v0, fs, rfl, q0, gf⟩ := z
  cases gT_r (τ := τ) (t := 6) (v := v0) rfl q0
  have z := all2_cons gf
  clear gf
  obtain ⟨v0, fs, rfl, q0, gf⟩ := z
  obtain ⟨M_stampMany, rfl, e_M_stampMany, b_M_stampMany⟩ := gT_x (τ := τ) (t := 205) (v := v0) rfl q0
  have z := all2_cons gf
  clear gf
  obtain ⟨v0, fs, rfl, q0, gf⟩ := z
  cases (q0 : v0 = .inr (some (.inl 2)))
  have z := all2_cons gf
  clear gf
  obtain ⟨v0, fs, rfl, q0, gf⟩ := z
  obtain ⟨M_taped, rfl, e_M_taped, b_M_taped⟩ := gT_x (τ := τ) (t := 202) (v := v0) rfl q0
  have z := all2_cons gf
  clear gf
  obtain ⟨v0, fs, rfl, q0, gf⟩ := z
  obtain ⟨M_place0, rfl, b_M_place0⟩ := q0
  have z := all2_cons gf
  clear gf
  obtain ⟨v0, fs, rfl, q0, gf⟩ := z
  obtain ⟨M_length0, rfl, b_M_length0⟩ := q0
  have z := all2_cons gf
  clear gf
  obtain ⟨v0, fs, rfl, q0, gf⟩ := z
  obtain ⟨M_fault, rfl, b_M_fault⟩ := q0
  have z := all2_cons gf
  clear gf
  obtain ⟨v0, fs, rfl, q0, gf⟩ := z
  obtain ⟨M_number0, rfl, b_M_number0⟩ := q0
  have z := all2_cons gf
  clear gf
  obtain ⟨v0, fs, rfl, q0, gf⟩ := z
  obtain ⟨M_open, rfl, b_M_open⟩ := q0
  have z := all2_cons gf
  clear gf
  obtain ⟨v0, fs, rfl, q0, gf⟩ := z
  obtain ⟨M_codeMany, rfl, b_M_codeMany⟩ := q0
  have z := all2_cons gf
  clear gf
  obtain ⟨v0, fs, rfl, q0, gf⟩ := z
  obtain ⟨M_waiting, rfl, b_M_waiting⟩ := q0
  have z := all2_cons gf
  clear gf
  obtain ⟨v0, fs, rfl, q0, gf⟩ := z
  obtain ⟨M_saidMany, rfl, b_M_saidMany⟩ := q0
  have z := all2_cons gf
  clear gf
  obtain ⟨v0, fs, rfl, q0, gf⟩ := z
  obtain ⟨M_clauses, rfl, e_M_clauses, b_M_clauses⟩ := gT_x (τ := τ) (t := 200) (v := v0) rfl q0
  have z := all2_cons gf
  clear gf
  obtain ⟨v0, fs, rfl, q0, gf⟩ := z
  cases gT_r (τ := τ) (t := 7) (v := v0) rfl q0
  have z := all2_cons gf
  clear gf
  obtain ⟨v0, fs, rfl, q0, gf⟩ := z
  cases gT_r (τ := τ) (t := 8) (v := v0) rfl q0
  have z := all2_cons gf
  clear gf
  obtain ⟨v0, fs, rfl, q0, gf⟩ := z
  cases gT_r (τ := τ) (t := 9) (v := v0) rfl q0
  have z := all2_cons gf
  clear gf
  obtain ⟨v0, fs, rfl, q0, gf⟩ := z
  cases gT_r (τ := τ) (t := 10) (v := v0) rfl q0
  have z := all2_cons gf
  clear gf
  obtain ⟨v0, fs, rfl, q0, gf⟩ := z
  cases gT_r (τ := τ) (t := 11) (v := v0) rfl q0
  have z := all2_cons gf
  clear gf
  obtain ⟨v0, fs, rfl, q0, gf⟩ := z
  cases gT_r (τ := τ) (t := 12) (v := v0) rfl q0
  have z := all2_cons gf
  clear gf
  obtain ⟨v0, fs, rfl, q0, gf⟩ := z
  cases gT_r (τ := τ) (t := 13) (v := v0) rfl q0
  have z := all2_cons gf
  clear gf
  obtain ⟨v0, fs, rfl, q0, gf⟩ := z
  cases gT_r (τ := τ) (t := 14) (v := v0) rfl q0
  have z := all2_cons gf
  clear gf
  obtain ⟨v0, fs, rfl, q0, gf⟩ := z
  cases gT_r (τ := τ) (t := 15) (v := v0) rfl q0
  have z := all2_cons gf
  clear gf
  obtain ⟨v0, fs, rfl, q0, gf⟩ := z
  cases gT_r (τ := τ) (t := 16) (v := v0) rfl q0
  have z := all2_cons gf
  clear gf
  obtain ⟨v0, fs, rfl, q0, gf⟩ := z
  cases gT_r (τ := τ) (t := 17) (v := v0) rfl q0
  have z := all2_cons gf
  clear gf
  obtain ⟨v0, fs, rfl, q0, gf⟩ := z
  cases gT_r (τ := τ) (t := 18) (v := v0) rfl q0
  have z := all2_cons gf
  clear gf
  obtain ⟨v0, fs, rfl, q0, gf⟩ := z
  cases gT_r (τ := τ) (t := 19) (v := v0) rfl q0
  have z := all2_cons gf
  clear gf
  obtain ⟨v0, fs, rfl, q0, gf⟩ := z
  cases gT_r (τ := τ) (t := 20) (v := v0) rfl q0
  have z := all2_cons gf
  clear gf
  obtain ⟨v0, fs, rfl, q0, gf⟩ := z
  cases gT_r (τ := τ) (t := 21) (v := v0) rfl q0
  have z := all2_cons gf
  clear gf
  obtain ⟨v0, fs, rfl, q0, gf⟩ := z
  cases gT_r (τ := τ) (t := 22) (v := v0) rfl q0
  have z := all2_cons gf
  clear gf
  obtain ⟨v0, fs, rfl, q0, gf⟩ := z
  cases gT_r (τ := τ) (t := 23) (v := v0) rfl q0
  have z := all2_cons gf
  clear gf
  obtain ⟨v0, fs, rfl, q0, gf⟩ := z
  obtain ⟨M_newMany, rfl, b_M_newMany⟩ := q0
  have z := all2_cons gf
  clear gf
  obtain ⟨v0, fs, rfl, q0, gf⟩ := z
  obtain ⟨M_rounds, rfl, b_M_rounds⟩ := q0
  have z := all2_cons gf
  clear gf
  obtain ⟨v0, fs, rfl, q0, gf⟩ := z
  obtain ⟨M_stampFrom, rfl, b_M_stampFrom⟩ := q0
  have z := all2_cons gf
  clear gf
  obtain ⟨v0, fs, rfl, q0, gf⟩ := z
  obtain ⟨M_stampTimes, rfl, b_M_stampTimes⟩ := q0
  have z := all2_cons gf
  clear gf
  obtain ⟨v0, fs, rfl, q0, gf⟩ := z
  obtain ⟨M_lines, rfl, b_M_lines⟩ := q0
  have z := all2_cons gf
  clear gf
  obtain ⟨v0, fs, rfl, q0, gf⟩ := z
  obtain ⟨M_spot0, rfl, b_M_spot0⟩ := q0
  have z := all2_cons gf
  clear gf
  obtain ⟨v0, fs, rfl, q0, gf⟩ := z
  obtain ⟨M_pullAcross, rfl, b_M_pullAcross⟩ := q0
  have z := all2_cons gf
  clear gf
  obtain ⟨v0, fs, rfl, q0, gf⟩ := z
  obtain ⟨M_pullAlong, rfl, b_M_pullAlong⟩ := q0
  have z := all2_cons gf
  clear gf
  obtain ⟨v0, fs, rfl, q0, gf⟩ := z
  obtain ⟨M_stepsNow, rfl, b_M_stepsNow⟩ := q0
  have z := all2_cons gf
  clear gf
  obtain ⟨v0, fs, rfl, q0, gf⟩ := z
  obtain ⟨M_fallenNow, rfl, b_M_fallenNow⟩ := q0
  have z := all2_cons gf
  clear gf
  obtain ⟨v0, fs, rfl, q0, gf⟩ := z
  cases gT_r (τ := τ) (t := 24) (v := v0) rfl q0
  have z := all2_cons gf
  clear gf
  obtain ⟨v0, fs, rfl, q0, gf⟩ := z
  cases gT_r (τ := τ) (t := 25) (v := v0) rfl q0
  have z := all2_cons gf
  clear gf
  obtain ⟨v0, fs, rfl, q0, gf⟩ := z
  cases gT_r (τ := τ) (t := 26) (v := v0) rfl q0
  have z := all2_cons gf
  clear gf
  obtain ⟨v0, fs, rfl, q0, gf⟩ := z
  cases gT_r (τ := τ) (t := 27) (v := v0) rfl q0
  have z := all2_cons gf
  clear gf
  obtain ⟨v0, fs, rfl, q0, gf⟩ := z
  cases gT_r (τ := τ) (t := 28) (v := v0) rfl q0
  have z := all2_cons gf
  clear gf
  obtain ⟨v0, fs, rfl, q0, gf⟩ := z
  obtain ⟨M_isKept, rfl, e_M_isKept, b_M_isKept⟩ := gT_x (τ := τ) (t := 201) (v := v0) rfl q0
  cases fs with
  | cons _ _ => exact gf.elim
  | nil =>
    have z := all2_cons hh
    clear hh
    obtain ⟨e1, h, rfl, g1, hh⟩ := z
    rcases e1 with ⟨t1, n1, M_mintAt⟩ | ⟨ci, fs⟩
    rotate_left
    · exact g1.elim
    obtain ⟨et, en, b_M_mintAt⟩ := g1
    cases (et : t1 = 0)
    cases en
    have z := all2_cons hh
    clear hh
    obtain ⟨e1, h, rfl, g1, hh⟩ := z
    rcases e1 with ⟨t1, n1, M_tape⟩ | ⟨ci, fs⟩
    rotate_left
    · exact g1.elim
    obtain ⟨et, en, b_M_tape⟩ := g1
    cases (et : t1 = 1)
    cases en
    cases h with
    | cons _ _ => exact hh.elim
    | nil =>
      rw [← e_M_taped] at hP
      exact c_nprintedR hP

def nd_stamped (a b c d e s : Int32) : Prop := (1 ≤ a ∧ a ≤ 9) ∧ (0 ≤ b ∧ b ≤ 383) ∧ (0 ≤ c ∧ c ≤ 383) ∧ (0 ≤ d ∧ d ≤ 60) ∧ (0 ≤ e ∧ e ≤ 1) ∧ a ≤ s
set_option maxRecDepth 100000 in
theorem c_nstampedC {l : Launch} {HS_now HS_kept HS_trial HS_clerk HS_riddles HS_sheetReader HS_postReader HS_lawReader HS_seen HS_rules HS_spareRules : List (Option Nat)} {HS_wasKept Tape_size Crew_size Crew_acrossSum Crew_alongSum Rep_toldMints Rep_walls Rep_stamps : Int32} {Tape_bytes Crew_members Rep_mintX Rep_mintY Rep_wall Rep_mintOf Rep_grainsOf : Nat → Int32}  {a b c d e : Int32} (hN : ¬ nd_stamped a b c d e Tape_size) : MetP l 7 yX11_stamped cX11_stamped 6 (some .int) 0 0 [.inr (some (.inl 0)), .inl a, .inl b, .inl c, .inl d, .inl e] [.inr (10, [.inr (some (.inl 1)), .inr (some (.inl 5)), .inr (some (.inr HS_now)), .inr (some (.inr HS_kept)), .inr (some (.inr HS_trial)), .inr (some (.inr HS_clerk)), .inr (some (.inl 3)), .inr (some (.inr HS_riddles)), .inr (some (.inr HS_sheetReader)), .inr (some (.inr HS_postReader)), .inr (some (.inr HS_lawReader)), .inr (some (.inr HS_seen)), .inr (some (.inr HS_rules)), .inr (some (.inr HS_spareRules)), .inl HS_wasKept]), .inr (9, [.inr (some (.inl 2)), .inl Tape_size]), .inl (0, 260, Tape_bytes), .inr (1, [.inr (some (.inl 5)), .inr (some (.inl 4)), .inl Crew_size, .inl Crew_acrossSum, .inl Crew_alongSum]), .inl (0, 9, Crew_members), .inr (6, [.inr (some (.inl 6)), .inr (some (.inl 7)), .inr (some (.inl 8)), .inr (some (.inl 9)), .inr (some (.inl 10)), .inl Rep_toldMints, .inl Rep_walls, .inl Rep_stamps]), .inl (0, 8, Rep_mintX), .inl (0, 8, Rep_mintY), .inl (2, 384, Rep_wall), .inl (0, 48, Rep_mintOf), .inl (0, 48, Rep_grainsOf)] (fun r h' => r = some (.inl (-1)) ∧ h' = [.inr (10, [.inr (some (.inl 1)), .inr (some (.inl 5)), .inr (some (.inr HS_now)), .inr (some (.inr HS_kept)), .inr (some (.inr HS_trial)), .inr (some (.inr HS_clerk)), .inr (some (.inl 3)), .inr (some (.inr HS_riddles)), .inr (some (.inr HS_sheetReader)), .inr (some (.inr HS_postReader)), .inr (some (.inr HS_lawReader)), .inr (some (.inr HS_seen)), .inr (some (.inr HS_rules)), .inr (some (.inr HS_spareRules)), .inl HS_wasKept]), .inr (9, [.inr (some (.inl 2)), .inl Tape_size]), .inl (0, 260, Tape_bytes), .inr (1, [.inr (some (.inl 5)), .inr (some (.inl 4)), .inl Crew_size, .inl Crew_acrossSum, .inl Crew_alongSum]), .inl (0, 9, Crew_members), .inr (6, [.inr (some (.inl 6)), .inr (some (.inl 7)), .inr (some (.inl 8)), .inr (some (.inl 9)), .inr (some (.inl 10)), .inl Rep_toldMints, .inl Rep_walls, .inl Rep_stamps]), .inl (0, 8, Rep_mintX), .inl (0, 8, Rep_mintY), .inl (2, 384, Rep_wall), .inl (0, 48, Rep_mintOf), .inl (0, 48, Rep_grainsOf)]) := by
  refine m_X11_stamped  (Nat.le_of_ble_eq_true rfl) ?_ 
  refine call0 (c_isPlace) rfl rfl ?_
  rintro r h' ⟨rfl, rfl⟩
  refine br_b (fun _ => ⟨rfl, rfl⟩) (fun g1 => ?_)
  refine call0 (c_isPlace) rfl rfl ?_
  rintro r h' ⟨rfl, rfl⟩
  refine br_b (fun _ => ⟨rfl, rfl⟩) (fun g2 => ?_)
  refine call0 (c_within) rfl rfl ?_
  rintro r h' ⟨rfl, rfl⟩
  refine br_b (fun _ => ⟨rfl, rfl⟩) (fun g3 => ?_)
  refine call0 (c_within) rfl rfl ?_
  rintro r h' ⟨rfl, rfl⟩
  refine br_b (fun _ => ⟨rfl, rfl⟩) (fun g4 => ?_)
  refine call0 (c_canGive) rfl rfl ?_
  rintro r h' ⟨rfl, rfl⟩
  exact br_b (fun _ => ⟨rfl, rfl⟩) (fun g => absurd ⟨g.1, g1, g2, g3, g4, g.2⟩ hN)
def HI_stampedC : List AC := hc_799d656d53
set_option maxRecDepth 100000 in
theorem i_nstampedC {l : Launch} {a b c d e : Int32} : conOkI (MetP l 7 yX11_stamped cX11_stamped 6 (some .int) 0 0) [a, b, c, d, e] (-1) HI_stampedC (fun τ => ¬ nd_stamped a b c d e (decA (τ 202) 0)) := by
  intro τ hΦ hP h hh
  have hP : ¬ nd_stamped a b c d e (decA (τ 202) 0) := hP
  have z := all2_cons hh
  clear hh
  obtain ⟨e0, h, rfl, g0, hh⟩ := z
  rcases e0 with ⟨t0, n0, f0⟩ | ⟨ci, fs⟩
  · exact g0.elim
  obtain ⟨rfl, gf⟩ := g0
  have z := all2_cons gf
  clear gf
  obtain ⟨v0, fs, rfl, q0, gf⟩ := z
  cases (q0 : v0 = .inr (some (.inl 1)))
  have z := all2_cons gf
  clear gf
  obtain ⟨v0, fs, rfl, q0, gf⟩ := z
  cases (q0 : v0 = .inr (some (.inl 5)))
  have z := all2_cons gf
  clear gf
  obtain ⟨v0, fs, rfl, q0, gf⟩ := z
  cases gT_r (τ := τ) (t := 0) (v := v0) rfl q0
  have z := all2_cons gf
  clear gf
  obtain ⟨v0, fs, rfl, q0, gf⟩ := z
  cases gT_r (τ := τ) (t := 1) (v := v0) rfl q0
  have z := all2_cons gf
  clear gf
  obtain ⟨v0, fs, rfl, q0, gf⟩ := z
  cases gT_r (τ := τ) (t := 2) (v := v0) rfl q0
  have z := all2_cons gf
  clear gf
  obtain ⟨v0, fs, rfl, q0, gf⟩ := z
  cases gT_r (τ := τ) (t := 3) (v := v0) rfl q0
  have z := all2_cons gf
  clear gf
  obtain ⟨v0, fs, rfl, q0, gf⟩ := z
  cases (q0 : v0 = .inr (some (.inl 3)))
  have z := all2_cons gf
  clear gf
  obtain ⟨v0, fs, rfl, q0, gf⟩ := z
  cases gT_r (τ := τ) (t := 4) (v := v0) rfl q0
  have z := all2_cons gf
  clear gf
  obtain ⟨v0, fs, rfl, q0, gf⟩ := z
  cases gT_r (τ := τ) (t := 5) (v := v0) rfl q0
  have z := all2_cons gf
  clear gf
  obtain ⟨v0, fs, rfl, q0, gf⟩ := z
  cases gT_r (τ := τ) (t := 6) (v := v0) rfl q0
  have z := all2_cons gf
  clear gf
  obtain ⟨v0, fs, rfl, q0, gf⟩ := z
  cases gT_r (τ := τ) (t := 7) (v := v0) rfl q0
  have z := all2_cons gf
  clear gf
  obtain ⟨v0, fs, rfl, q0, gf⟩ := z
  cases gT_r (τ := τ) (t := 8) (v := v0) rfl q0
  have z := all2_cons gf
  clear gf
  obtain ⟨v0, fs, rfl, q0, gf⟩ := z
  cases gT_r (τ := τ) (t := 9) (v := v0) rfl q0
  have z := all2_cons gf
  clear gf
  obtain ⟨v0, fs, rfl, q0, gf⟩ := z
  cases gT_r (τ := τ) (t := 10) (v := v0) rfl q0
  have z := all2_cons gf
  clear gf
  obtain ⟨v0, fs, rfl, q0, gf⟩ := z
  obtain ⟨HS_wasKept, rfl, e_HS_wasKept, b_HS_wasKept⟩ := gT_x (τ := τ) (t := 201) (v := v0) rfl q0
  cases fs with
  | cons _ _ => exact gf.elim
  | nil =>
    have z := all2_cons hh
    clear hh
    obtain ⟨e0, h, rfl, g0, hh⟩ := z
    rcases e0 with ⟨t0, n0, f0⟩ | ⟨ci, fs⟩
    · exact g0.elim
    obtain ⟨rfl, gf⟩ := g0
    have z := all2_cons gf
    clear gf
    obtain ⟨v0, fs, rfl, q0, gf⟩ := z
    cases (q0 : v0 = .inr (some (.inl 2)))
    have z := all2_cons gf
    clear gf
    obtain ⟨v0, fs, rfl, q0, gf⟩ := z
    obtain ⟨Tape_size, rfl, e_Tape_size, b_Tape_size⟩ := gT_x (τ := τ) (t := 202) (v := v0) rfl q0
    cases fs with
    | cons _ _ => exact gf.elim
    | nil =>
      have z := all2_cons hh
      clear hh
      obtain ⟨e1, h, rfl, g1, hh⟩ := z
      rcases e1 with ⟨t1, n1, Tape_bytes⟩ | ⟨ci, fs⟩
      rotate_left
      · exact g1.elim
      obtain ⟨et, en, b_Tape_bytes⟩ := g1
      cases (et : t1 = 0)
      cases en
      have z := all2_cons hh
      clear hh
      obtain ⟨e0, h, rfl, g0, hh⟩ := z
      rcases e0 with ⟨t0, n0, f0⟩ | ⟨ci, fs⟩
      · exact g0.elim
      obtain ⟨rfl, gf⟩ := g0
      have z := all2_cons gf
      clear gf
      obtain ⟨v0, fs, rfl, q0, gf⟩ := z
      cases (q0 : v0 = .inr (some (.inl 5)))
      have z := all2_cons gf
      clear gf
      obtain ⟨v0, fs, rfl, q0, gf⟩ := z
      cases (q0 : v0 = .inr (some (.inl 4)))
      have z := all2_cons gf
      clear gf
      obtain ⟨v0, fs, rfl, q0, gf⟩ := z
      obtain ⟨Crew_size, rfl, b_Crew_size⟩ := q0
      have z := all2_cons gf
      clear gf
      obtain ⟨v0, fs, rfl, q0, gf⟩ := z
      obtain ⟨Crew_acrossSum, rfl, b_Crew_acrossSum⟩ := q0
      have z := all2_cons gf
      clear gf
      obtain ⟨v0, fs, rfl, q0, gf⟩ := z
      obtain ⟨Crew_alongSum, rfl, b_Crew_alongSum⟩ := q0
      cases fs with
      | cons _ _ => exact gf.elim
      | nil =>
        have z := all2_cons hh
        clear hh
        obtain ⟨e1, h, rfl, g1, hh⟩ := z
        rcases e1 with ⟨t1, n1, Crew_members⟩ | ⟨ci, fs⟩
        rotate_left
        · exact g1.elim
        obtain ⟨et, en, b_Crew_members⟩ := g1
        cases (et : t1 = 0)
        cases en
        have z := all2_cons hh
        clear hh
        obtain ⟨e0, h, rfl, g0, hh⟩ := z
        rcases e0 with ⟨t0, n0, f0⟩ | ⟨ci, fs⟩
        · exact g0.elim
        obtain ⟨rfl, gf⟩ := g0
        have z := all2_cons gf
        clear gf
        obtain ⟨v0, fs, rfl, q0, gf⟩ := z
        cases (q0 : v0 = .inr (some (.inl 6)))
        have z := all2_cons gf
        clear gf
        obtain ⟨v0, fs, rfl, q0, gf⟩ := z
        cases (q0 : v0 = .inr (some (.inl 7)))
        have z := all2_cons gf
        clear gf
        obtain ⟨v0, fs, rfl, q0, gf⟩ := z
        cases (q0 : v0 = .inr (some (.inl 8)))
        have z := all2_cons gf
        clear gf
        obtain ⟨v0, fs, rfl, q0, gf⟩ := z
        cases (q0 : v0 = .inr (some (.inl 9)))
        have z := all2_cons gf
        clear gf
        obtain ⟨v0, fs, rfl, q0, gf⟩ := z
        cases (q0 : v0 = .inr (some (.inl 10)))
        have z := all2_cons gf
        clear gf
        obtain ⟨v0, fs, rfl, q0, gf⟩ := z
        obtain ⟨Rep_toldMints, rfl, e_Rep_toldMints, b_Rep_toldMints⟩ := gT_x (τ := τ) (t := 203) (v := v0) rfl q0
        have z := all2_cons gf
        clear gf
        obtain ⟨v0, fs, rfl, q0, gf⟩ := z
        obtain ⟨Rep_walls, rfl, b_Rep_walls⟩ := q0
        have z := all2_cons gf
        clear gf
        obtain ⟨v0, fs, rfl, q0, gf⟩ := z
        obtain ⟨Rep_stamps, rfl, e_Rep_stamps, b_Rep_stamps⟩ := gT_x (τ := τ) (t := 204) (v := v0) rfl q0
        cases fs with
        | cons _ _ => exact gf.elim
        | nil =>
          have z := all2_cons hh
          clear hh
          obtain ⟨e1, h, rfl, g1, hh⟩ := z
          rcases e1 with ⟨t1, n1, Rep_mintX⟩ | ⟨ci, fs⟩
          rotate_left
          · exact g1.elim
          obtain ⟨et, en, b_Rep_mintX⟩ := g1
          cases (et : t1 = 0)
          cases en
          have z := all2_cons hh
          clear hh
          obtain ⟨e1, h, rfl, g1, hh⟩ := z
          rcases e1 with ⟨t1, n1, Rep_mintY⟩ | ⟨ci, fs⟩
          rotate_left
          · exact g1.elim
          obtain ⟨et, en, b_Rep_mintY⟩ := g1
          cases (et : t1 = 0)
          cases en
          have z := all2_cons hh
          clear hh
          obtain ⟨e1, h, rfl, g1, hh⟩ := z
          rcases e1 with ⟨t1, n1, Rep_wall⟩ | ⟨ci, fs⟩
          rotate_left
          · exact g1.elim
          obtain ⟨et, en, b_Rep_wall⟩ := g1
          cases (et : t1 = 2)
          cases en
          have z := all2_cons hh
          clear hh
          obtain ⟨e1, h, rfl, g1, hh⟩ := z
          rcases e1 with ⟨t1, n1, Rep_mintOf⟩ | ⟨ci, fs⟩
          rotate_left
          · exact g1.elim
          obtain ⟨et, en, b_Rep_mintOf⟩ := g1
          cases (et : t1 = 0)
          cases en
          have z := all2_cons hh
          clear hh
          obtain ⟨e1, h, rfl, g1, hh⟩ := z
          rcases e1 with ⟨t1, n1, Rep_grainsOf⟩ | ⟨ci, fs⟩
          rotate_left
          · exact g1.elim
          obtain ⟨et, en, b_Rep_grainsOf⟩ := g1
          cases (et : t1 = 0)
          cases en
          cases h with
          | cons _ _ => exact hh.elim
          | nil =>
            rw [← e_Tape_size] at hP
            exact c_nstampedC hP

set_option maxRecDepth 100000 in
theorem c_nstampedR {l : Launch} {M_now M_aside M_kept M_wasWall M_said M_waitsAt M_saidLetter M_saidFrom M_saidHalf M_saidTo M_codes M_clauseOf M_codeFrom M_codeHalf M_codeTo M_stack M_facts M_newStamps M_roundFrom M_roundAt M_roundTimes M_usesNow M_wasAt M_fewestFor M_getsOf : List (Option Nat)} {M_stampMany M_taped M_place0 M_length0 M_fault M_number0 M_open M_codeMany M_waiting M_saidMany M_clauses M_newMany M_rounds M_stampFrom M_stampTimes M_lines M_spot0 M_pullAcross M_pullAlong M_stepsNow M_fallenNow M_isKept : Int32} {M_mintAt M_mintOf M_wholeOf M_isWall M_tape M_someOf : Nat → Int32}  {a b c d e : Int32} (hN : ¬ nd_stamped a b c d e M_taped) : MetP l 5 yX12_stamped cX12_stamped 8 (some .int) 0 0 [.inr (some (.inl 0)), .inl a, .inl b, .inl c, .inl d, .inl e] [.inr (11, [.inr (some (.inr M_now)), .inr (some (.inr M_aside)), .inr (some (.inr M_kept)), .inr (some (.inl 1)), .inr (some (.inl 2)), .inr (some (.inl 3)), .inr (some (.inl 4)), .inr (some (.inr M_wasWall)), .inl M_stampMany, .inr (some (.inl 5)), .inl M_taped, .inl M_place0, .inl M_length0, .inl M_fault, .inl M_number0, .inl M_open, .inl M_codeMany, .inl M_waiting, .inl M_saidMany, .inl M_clauses, .inr (some (.inr M_said)), .inr (some (.inr M_waitsAt)), .inr (some (.inr M_saidLetter)), .inr (some (.inr M_saidFrom)), .inr (some (.inr M_saidHalf)), .inr (some (.inr M_saidTo)), .inr (some (.inr M_codes)), .inr (some (.inr M_clauseOf)), .inr (some (.inr M_codeFrom)), .inr (some (.inr M_codeHalf)), .inr (some (.inr M_codeTo)), .inr (some (.inr M_stack)), .inr (some (.inr M_facts)), .inr (some (.inr M_newStamps)), .inr (some (.inr M_roundFrom)), .inr (some (.inr M_roundAt)), .inr (some (.inr M_roundTimes)), .inl M_newMany, .inl M_rounds, .inl M_stampFrom, .inl M_stampTimes, .inl M_lines, .inl M_spot0, .inl M_pullAcross, .inl M_pullAlong, .inl M_stepsNow, .inl M_fallenNow, .inr (some (.inr M_usesNow)), .inr (some (.inr M_wasAt)), .inr (some (.inl 6)), .inr (some (.inr M_fewestFor)), .inr (some (.inr M_getsOf)), .inl M_isKept]), .inl (0, 8, M_mintAt), .inl (0, 48, M_mintOf), .inl (0, 48, M_wholeOf), .inl (2, 384, M_isWall), .inl (1, 260, M_tape), .inl (0, 9, M_someOf)] (fun r h' => r = some (.inl (-1)) ∧ h' = [.inr (11, [.inr (some (.inr M_now)), .inr (some (.inr M_aside)), .inr (some (.inr M_kept)), .inr (some (.inl 1)), .inr (some (.inl 2)), .inr (some (.inl 3)), .inr (some (.inl 4)), .inr (some (.inr M_wasWall)), .inl M_stampMany, .inr (some (.inl 5)), .inl M_taped, .inl M_place0, .inl M_length0, .inl M_fault, .inl M_number0, .inl M_open, .inl M_codeMany, .inl M_waiting, .inl M_saidMany, .inl M_clauses, .inr (some (.inr M_said)), .inr (some (.inr M_waitsAt)), .inr (some (.inr M_saidLetter)), .inr (some (.inr M_saidFrom)), .inr (some (.inr M_saidHalf)), .inr (some (.inr M_saidTo)), .inr (some (.inr M_codes)), .inr (some (.inr M_clauseOf)), .inr (some (.inr M_codeFrom)), .inr (some (.inr M_codeHalf)), .inr (some (.inr M_codeTo)), .inr (some (.inr M_stack)), .inr (some (.inr M_facts)), .inr (some (.inr M_newStamps)), .inr (some (.inr M_roundFrom)), .inr (some (.inr M_roundAt)), .inr (some (.inr M_roundTimes)), .inl M_newMany, .inl M_rounds, .inl M_stampFrom, .inl M_stampTimes, .inl M_lines, .inl M_spot0, .inl M_pullAcross, .inl M_pullAlong, .inl M_stepsNow, .inl M_fallenNow, .inr (some (.inr M_usesNow)), .inr (some (.inr M_wasAt)), .inr (some (.inl 6)), .inr (some (.inr M_fewestFor)), .inr (some (.inr M_getsOf)), .inl M_isKept]), .inl (0, 8, M_mintAt), .inl (0, 48, M_mintOf), .inl (0, 48, M_wholeOf), .inl (2, 384, M_isWall), .inl (1, 260, M_tape), .inl (0, 9, M_someOf)]) := by
  refine m_X12_stamped (fun _ _ _ _ => False) (Nat.le_of_ble_eq_true rfl) ?_ (fun _ _ _ _ z => z.elim)
  refine call0 (c_in) rfl rfl ?_
  rintro r h' ⟨rfl, rfl⟩
  refine br_b (fun _ => ⟨rfl, rfl⟩) (fun g1 => ?_)
  refine call0 (c_misPlace) rfl rfl ?_
  rintro r h' ⟨rfl, rfl⟩
  refine br_b (fun _ => ⟨rfl, rfl⟩) (fun g2 => ?_)
  refine call0 (c_misPlace) rfl rfl ?_
  rintro r h' ⟨rfl, rfl⟩
  refine br_b (fun _ => ⟨rfl, rfl⟩) (fun g3 => ?_)
  refine call0 (c_in) rfl rfl ?_
  rintro r h' ⟨rfl, rfl⟩
  refine br_b (fun _ => ⟨rfl, rfl⟩) (fun g4 => ?_)
  refine call0 (c_in) rfl rfl ?_
  rintro r h' ⟨rfl, rfl⟩
  refine br_b (fun _ => ⟨rfl, rfl⟩) (fun g5 => ?_)
  exact And.intro (fun g => absurd ⟨g1, g2, g3, g4, g5, g⟩ hN) (fun _ => ⟨rfl, rfl⟩)
def HI_stampedR : List AC := [.inr (11, [.inr (.inr (some (.inr 0))), .inr (.inr (some (.inr 1))), .inr (.inr (some (.inr 2))), .inr (.inr (some (.inl 1))), .inr (.inr (some (.inl 2))), .inr (.inr (some (.inl 3))), .inr (.inr (some (.inl 4))), .inr (.inr (some (.inr 3))), .inr (.inr (some (.inr 205))), .inr (.inr (some (.inl 5))), .inr (.inr (some (.inr 202))), .inl (0, 240), .inl (0, 240), .inl (-2147483648, 2147483647), .inl (-2147483648, 2147483647), .inl (-2147483648, 2147483647), .inl (0, 260), .inl (0, 260), .inl (0, 16), .inr (.inr (some (.inr 200))), .inr (.inr (some (.inr 4))), .inr (.inr (some (.inr 5))), .inr (.inr (some (.inr 6))), .inr (.inr (some (.inr 7))), .inr (.inr (some (.inr 8))), .inr (.inr (some (.inr 9))), .inr (.inr (some (.inr 10))), .inr (.inr (some (.inr 11))), .inr (.inr (some (.inr 12))), .inr (.inr (some (.inr 13))), .inr (.inr (some (.inr 14))), .inr (.inr (some (.inr 15))), .inr (.inr (some (.inr 16))), .inr (.inr (some (.inr 17))), .inr (.inr (some (.inr 18))), .inr (.inr (some (.inr 19))), .inr (.inr (some (.inr 20))), .inl (-2147483648, 2147483647), .inl (-2147483648, 2147483647), .inl (-2147483648, 2147483647), .inl (-2147483648, 2147483647), .inl (-2147483648, 2147483647), .inl (-2147483648, 2147483647), .inl (-2147483648, 2147483647), .inl (-2147483648, 2147483647), .inl (-2147483648, 2147483647), .inl (-2147483648, 2147483647), .inr (.inr (some (.inr 21))), .inr (.inr (some (.inr 22))), .inr (.inr (some (.inl 6))), .inr (.inr (some (.inr 23))), .inr (.inr (some (.inr 24))), .inr (.inr (some (.inr 201)))]), .inl (1016, 8, -1, 383), .inl (1028, 48, 0, 7), .inl (1032, 48, 0, 2), .inl (1058, 384, 0, 1), .inl (1005, 260, -128, 127), .inl (0, 9, 0, 47)]
set_option maxRecDepth 100000 in
theorem i_nstampedR {l : Launch} {a b c d e : Int32} : conOkI (MetP l 5 yX12_stamped cX12_stamped 8 (some .int) 0 0) [a, b, c, d, e] (-1) HI_stampedR (fun τ => ¬ nd_stamped a b c d e (decA (τ 202) 0)) := by
  intro τ hΦ hP h hh
  have hP : ¬ nd_stamped a b c d e (decA (τ 202) 0) := hP
  have z := all2_cons hh
  clear hh
  obtain ⟨e0, h, rfl, g0, hh⟩ := z
  rcases e0 with ⟨t0, n0, f0⟩ | ⟨ci, fs⟩
  · exact g0.elim
  obtain ⟨rfl, gf⟩ := g0
  have z := all2_cons gf
  clear gf
  obtain ⟨v0, fs, rfl, q0, gf⟩ := z
  cases gT_r (τ := τ) (t := 0) (v := v0) rfl q0
  have z := all2_cons gf
  clear gf
  obtain ⟨v0, fs, rfl, q0, gf⟩ := z
  cases gT_r (τ := τ) (t := 1) (v := v0) rfl q0
  have z := all2_cons gf
  clear gf
  obtain ⟨v0, fs, rfl, q0, gf⟩ := z
  cases gT_r (τ := τ) (t := 2) (v := v0) rfl q0
  have z := all2_cons gf
  clear gf
  obtain ⟨v0, fs, rfl, q0, gf⟩ := z
  cases (q0 : v0 = .inr (some (.inl 1)))
  have z := all2_cons gf
  clear gf
  obtain ⟨v0, fs, rfl, q0, gf⟩ := z
  cases (q0 : v0 = .inr (some (.inl 2)))
  have z := all2_cons gf
  clear gf
  obtain ⟨v0, fs, rfl, q0, gf⟩ := z
  cases (q0 : v0 = .inr (some (.inl 3)))
  have z := all2_cons gf
  clear gf
  obtain ⟨v0, fs, rfl, q0, gf⟩ := z
  cases (q0 : v0 = .inr (some (.inl 4)))
  have z := all2_cons gf
  clear gf
  obtain ⟨v0, fs, rfl, q0, gf⟩ := z
  cases gT_r (τ := τ) (t := 3) (v := v0) rfl q0
  have z := all2_cons gf
  clear gf
  obtain ⟨v0, fs, rfl, q0, gf⟩ := z
  obtain ⟨M_stampMany, rfl, e_M_stampMany, b_M_stampMany⟩ := gT_x (τ := τ) (t := 205) (v := v0) rfl q0
  have z := all2_cons gf
  clear gf
  obtain ⟨v0, fs, rfl, q0, gf⟩ := z
  cases (q0 : v0 = .inr (some (.inl 5)))
  have z := all2_cons gf
  clear gf
  obtain ⟨v0, fs, rfl, q0, gf⟩ := z
  obtain ⟨M_taped, rfl, e_M_taped, b_M_taped⟩ := gT_x (τ := τ) (t := 202) (v := v0) rfl q0
  have z := all2_cons gf
  clear gf
  obtain ⟨v0, fs, rfl, q0, gf⟩ := z
  obtain ⟨M_place0, rfl, b_M_place0⟩ := q0
  have z := all2_cons gf
  clear gf
  obtain ⟨v0, fs, rfl, q0, gf⟩ := z
  obtain ⟨M_length0, rfl, b_M_length0⟩ := q0
  have z := all2_cons gf
  clear gf
  obtain ⟨v0, fs, rfl, q0, gf⟩ := z
  obtain ⟨M_fault, rfl, b_M_fault⟩ := q0
  have z := all2_cons gf
  clear gf
  obtain ⟨v0, fs, rfl, q0, gf⟩ := z
  obtain ⟨M_number0, rfl, b_M_number0⟩ := q0
  have z := all2_cons gf
  clear gf
  obtain ⟨v0, fs, rfl, q0, gf⟩ := z
  obtain ⟨M_open, rfl, b_M_open⟩ := q0
  have z := all2_cons gf
  clear gf
  obtain ⟨v0, fs, rfl, q0, gf⟩ := z
  obtain ⟨M_codeMany, rfl, b_M_codeMany⟩ := q0
  have z := all2_cons gf
  clear gf
  obtain ⟨v0, fs, rfl, q0, gf⟩ := z
  obtain ⟨M_waiting, rfl, b_M_waiting⟩ := q0
  have z := all2_cons gf
  clear gf
  obtain ⟨v0, fs, rfl, q0, gf⟩ := z
  obtain ⟨M_saidMany, rfl, b_M_saidMany⟩ := q0
  have z := all2_cons gf
  clear gf
  obtain ⟨v0, fs, rfl, q0, gf⟩ := z
  obtain ⟨M_clauses, rfl, e_M_clauses, b_M_clauses⟩ := gT_x (τ := τ) (t := 200) (v := v0) rfl q0
  have z := all2_cons gf
  clear gf
  obtain ⟨v0, fs, rfl, q0, gf⟩ := z
  cases gT_r (τ := τ) (t := 4) (v := v0) rfl q0
  have z := all2_cons gf
  clear gf
  obtain ⟨v0, fs, rfl, q0, gf⟩ := z
  cases gT_r (τ := τ) (t := 5) (v := v0) rfl q0
  have z := all2_cons gf
  clear gf
  obtain ⟨v0, fs, rfl, q0, gf⟩ := z
  cases gT_r (τ := τ) (t := 6) (v := v0) rfl q0
  have z := all2_cons gf
  clear gf
  obtain ⟨v0, fs, rfl, q0, gf⟩ := z
  cases gT_r (τ := τ) (t := 7) (v := v0) rfl q0
  have z := all2_cons gf
  clear gf
  obtain ⟨v0, fs, rfl, q0, gf⟩ := z
  cases gT_r (τ := τ) (t := 8) (v := v0) rfl q0
  have z := all2_cons gf
  clear gf
  obtain ⟨v0, fs, rfl, q0, gf⟩ := z
  cases gT_r (τ := τ) (t := 9) (v := v0) rfl q0
  have z := all2_cons gf
  clear gf
  obtain ⟨v0, fs, rfl, q0, gf⟩ := z
  cases gT_r (τ := τ) (t := 10) (v := v0) rfl q0
  have z := all2_cons gf
  clear gf
  obtain ⟨v0, fs, rfl, q0, gf⟩ := z
  cases gT_r (τ := τ) (t := 11) (v := v0) rfl q0
  have z := all2_cons gf
  clear gf
  obtain ⟨v0, fs, rfl, q0, gf⟩ := z
  cases gT_r (τ := τ) (t := 12) (v := v0) rfl q0
  have z := all2_cons gf
  clear gf
  obtain ⟨v0, fs, rfl, q0, gf⟩ := z
  cases gT_r (τ := τ) (t := 13) (v := v0) rfl q0
  have z := all2_cons gf
  clear gf
  obtain ⟨v0, fs, rfl, q0, gf⟩ := z
  cases gT_r (τ := τ) (t := 14) (v := v0) rfl q0
  have z := all2_cons gf
  clear gf
  obtain ⟨v0, fs, rfl, q0, gf⟩ := z
  cases gT_r (τ := τ) (t := 15) (v := v0) rfl q0
  have z := all2_cons gf
  clear gf
  obtain ⟨v0, fs, rfl, q0, gf⟩ := z
  cases gT_r (τ := τ) (t := 16) (v := v0) rfl q0
  have z := all2_cons gf
  clear gf
  obtain ⟨v0, fs, rfl, q0, gf⟩ := z
  cases gT_r (τ := τ) (t := 17) (v := v0) rfl q0
  have z := all2_cons gf
  clear gf
  obtain ⟨v0, fs, rfl, q0, gf⟩ := z
  cases gT_r (τ := τ) (t := 18) (v := v0) rfl q0
  have z := all2_cons gf
  clear gf
  obtain ⟨v0, fs, rfl, q0, gf⟩ := z
  cases gT_r (τ := τ) (t := 19) (v := v0) rfl q0
  have z := all2_cons gf
  clear gf
  obtain ⟨v0, fs, rfl, q0, gf⟩ := z
  cases gT_r (τ := τ) (t := 20) (v := v0) rfl q0
  have z := all2_cons gf
  clear gf
  obtain ⟨v0, fs, rfl, q0, gf⟩ := z
  obtain ⟨M_newMany, rfl, b_M_newMany⟩ := q0
  have z := all2_cons gf
  clear gf
  obtain ⟨v0, fs, rfl, q0, gf⟩ := z
  obtain ⟨M_rounds, rfl, b_M_rounds⟩ := q0
  have z := all2_cons gf
  clear gf
  obtain ⟨v0, fs, rfl, q0, gf⟩ := z
  obtain ⟨M_stampFrom, rfl, b_M_stampFrom⟩ := q0
  have z := all2_cons gf
  clear gf
  obtain ⟨v0, fs, rfl, q0, gf⟩ := z
  obtain ⟨M_stampTimes, rfl, b_M_stampTimes⟩ := q0
  have z := all2_cons gf
  clear gf
  obtain ⟨v0, fs, rfl, q0, gf⟩ := z
  obtain ⟨M_lines, rfl, b_M_lines⟩ := q0
  have z := all2_cons gf
  clear gf
  obtain ⟨v0, fs, rfl, q0, gf⟩ := z
  obtain ⟨M_spot0, rfl, b_M_spot0⟩ := q0
  have z := all2_cons gf
  clear gf
  obtain ⟨v0, fs, rfl, q0, gf⟩ := z
  obtain ⟨M_pullAcross, rfl, b_M_pullAcross⟩ := q0
  have z := all2_cons gf
  clear gf
  obtain ⟨v0, fs, rfl, q0, gf⟩ := z
  obtain ⟨M_pullAlong, rfl, b_M_pullAlong⟩ := q0
  have z := all2_cons gf
  clear gf
  obtain ⟨v0, fs, rfl, q0, gf⟩ := z
  obtain ⟨M_stepsNow, rfl, b_M_stepsNow⟩ := q0
  have z := all2_cons gf
  clear gf
  obtain ⟨v0, fs, rfl, q0, gf⟩ := z
  obtain ⟨M_fallenNow, rfl, b_M_fallenNow⟩ := q0
  have z := all2_cons gf
  clear gf
  obtain ⟨v0, fs, rfl, q0, gf⟩ := z
  cases gT_r (τ := τ) (t := 21) (v := v0) rfl q0
  have z := all2_cons gf
  clear gf
  obtain ⟨v0, fs, rfl, q0, gf⟩ := z
  cases gT_r (τ := τ) (t := 22) (v := v0) rfl q0
  have z := all2_cons gf
  clear gf
  obtain ⟨v0, fs, rfl, q0, gf⟩ := z
  cases (q0 : v0 = .inr (some (.inl 6)))
  have z := all2_cons gf
  clear gf
  obtain ⟨v0, fs, rfl, q0, gf⟩ := z
  cases gT_r (τ := τ) (t := 23) (v := v0) rfl q0
  have z := all2_cons gf
  clear gf
  obtain ⟨v0, fs, rfl, q0, gf⟩ := z
  cases gT_r (τ := τ) (t := 24) (v := v0) rfl q0
  have z := all2_cons gf
  clear gf
  obtain ⟨v0, fs, rfl, q0, gf⟩ := z
  obtain ⟨M_isKept, rfl, e_M_isKept, b_M_isKept⟩ := gT_x (τ := τ) (t := 201) (v := v0) rfl q0
  cases fs with
  | cons _ _ => exact gf.elim
  | nil =>
    have z := all2_cons hh
    clear hh
    obtain ⟨e1, h, rfl, g1, hh⟩ := z
    rcases e1 with ⟨t1, n1, M_mintAt⟩ | ⟨ci, fs⟩
    rotate_left
    · exact g1.elim
    obtain ⟨et, en, b_M_mintAt⟩ := g1
    cases (et : t1 = 0)
    cases en
    have z := all2_cons hh
    clear hh
    obtain ⟨e1, h, rfl, g1, hh⟩ := z
    rcases e1 with ⟨t1, n1, M_mintOf⟩ | ⟨ci, fs⟩
    rotate_left
    · exact g1.elim
    obtain ⟨et, en, b_M_mintOf⟩ := g1
    cases (et : t1 = 0)
    cases en
    have z := all2_cons hh
    clear hh
    obtain ⟨e1, h, rfl, g1, hh⟩ := z
    rcases e1 with ⟨t1, n1, M_wholeOf⟩ | ⟨ci, fs⟩
    rotate_left
    · exact g1.elim
    obtain ⟨et, en, b_M_wholeOf⟩ := g1
    cases (et : t1 = 0)
    cases en
    have z := all2_cons hh
    clear hh
    obtain ⟨e1, h, rfl, g1, hh⟩ := z
    rcases e1 with ⟨t1, n1, M_isWall⟩ | ⟨ci, fs⟩
    rotate_left
    · exact g1.elim
    obtain ⟨et, en, b_M_isWall⟩ := g1
    cases (et : t1 = 2)
    cases en
    have z := all2_cons hh
    clear hh
    obtain ⟨e1, h, rfl, g1, hh⟩ := z
    rcases e1 with ⟨t1, n1, M_tape⟩ | ⟨ci, fs⟩
    rotate_left
    · exact g1.elim
    obtain ⟨et, en, b_M_tape⟩ := g1
    cases (et : t1 = 1)
    cases en
    have z := all2_cons hh
    clear hh
    obtain ⟨e1, h, rfl, g1, hh⟩ := z
    rcases e1 with ⟨t1, n1, M_someOf⟩ | ⟨ci, fs⟩
    rotate_left
    · exact g1.elim
    obtain ⟨et, en, b_M_someOf⟩ := g1
    cases (et : t1 = 0)
    cases en
    cases h with
    | cons _ _ => exact hh.elim
    | nil =>
      rw [← e_M_taped] at hP
      exact c_nstampedR hP

def nd_hang (a b c s : Int32) : Prop := (1 ≤ a ∧ a ≤ 9) ∧ (0 ≤ b ∧ b ≤ 383) ∧ (0 ≤ c ∧ c ≤ 1) ∧ a ≤ s
set_option maxRecDepth 100000 in
theorem c_nhangC {l : Launch} {HS_now HS_kept HS_trial HS_clerk HS_riddles HS_sheetReader HS_postReader HS_lawReader HS_seen HS_rules HS_spareRules : List (Option Nat)} {HS_wasKept Tape_size Crew_size Crew_acrossSum Crew_alongSum Rep_toldMints Rep_walls Rep_stamps : Int32} {Tape_bytes Crew_members Rep_mintX Rep_mintY Rep_wall Rep_mintOf Rep_grainsOf : Nat → Int32}  {a b c : Int32} (hN : ¬ nd_hang a b c Tape_size) : MetP l 6 yX11_hang cX11_hang 4 (some .int) 0 0 [.inr (some (.inl 0)), .inl a, .inl b, .inl c] [.inr (10, [.inr (some (.inl 1)), .inr (some (.inl 5)), .inr (some (.inr HS_now)), .inr (some (.inr HS_kept)), .inr (some (.inr HS_trial)), .inr (some (.inr HS_clerk)), .inr (some (.inl 3)), .inr (some (.inr HS_riddles)), .inr (some (.inr HS_sheetReader)), .inr (some (.inr HS_postReader)), .inr (some (.inr HS_lawReader)), .inr (some (.inr HS_seen)), .inr (some (.inr HS_rules)), .inr (some (.inr HS_spareRules)), .inl HS_wasKept]), .inr (9, [.inr (some (.inl 2)), .inl Tape_size]), .inl (0, 260, Tape_bytes), .inr (1, [.inr (some (.inl 5)), .inr (some (.inl 4)), .inl Crew_size, .inl Crew_acrossSum, .inl Crew_alongSum]), .inl (0, 9, Crew_members), .inr (6, [.inr (some (.inl 6)), .inr (some (.inl 7)), .inr (some (.inl 8)), .inr (some (.inl 9)), .inr (some (.inl 10)), .inl Rep_toldMints, .inl Rep_walls, .inl Rep_stamps]), .inl (0, 8, Rep_mintX), .inl (0, 8, Rep_mintY), .inl (2, 384, Rep_wall), .inl (0, 48, Rep_mintOf), .inl (0, 48, Rep_grainsOf)] (fun r h' => r = some (.inl (-1)) ∧ h' = [.inr (10, [.inr (some (.inl 1)), .inr (some (.inl 5)), .inr (some (.inr HS_now)), .inr (some (.inr HS_kept)), .inr (some (.inr HS_trial)), .inr (some (.inr HS_clerk)), .inr (some (.inl 3)), .inr (some (.inr HS_riddles)), .inr (some (.inr HS_sheetReader)), .inr (some (.inr HS_postReader)), .inr (some (.inr HS_lawReader)), .inr (some (.inr HS_seen)), .inr (some (.inr HS_rules)), .inr (some (.inr HS_spareRules)), .inl HS_wasKept]), .inr (9, [.inr (some (.inl 2)), .inl Tape_size]), .inl (0, 260, Tape_bytes), .inr (1, [.inr (some (.inl 5)), .inr (some (.inl 4)), .inl Crew_size, .inl Crew_acrossSum, .inl Crew_alongSum]), .inl (0, 9, Crew_members), .inr (6, [.inr (some (.inl 6)), .inr (some (.inl 7)), .inr (some (.inl 8)), .inr (some (.inl 9)), .inr (some (.inl 10)), .inl Rep_toldMints, .inl Rep_walls, .inl Rep_stamps]), .inl (0, 8, Rep_mintX), .inl (0, 8, Rep_mintY), .inl (2, 384, Rep_wall), .inl (0, 48, Rep_mintOf), .inl (0, 48, Rep_grainsOf)]) := by
  refine m_X11_hang  (Nat.le_of_ble_eq_true rfl) ?_ 
  refine call0 (c_isPlace) rfl rfl ?_
  rintro r h' ⟨rfl, rfl⟩
  refine br_b (fun _ => ⟨rfl, rfl⟩) (fun g1 => ?_)
  refine call0 (c_within) rfl rfl ?_
  rintro r h' ⟨rfl, rfl⟩
  refine br_b (fun _ => ⟨rfl, rfl⟩) (fun g2 => ?_)
  refine call0 (c_canGive) rfl rfl ?_
  rintro r h' ⟨rfl, rfl⟩
  exact br_b (fun _ => ⟨rfl, rfl⟩) (fun g => absurd ⟨g.1, g1, g2, g.2⟩ hN)
def HI_hangC : List AC := hc_799d656d53
set_option maxRecDepth 100000 in
theorem i_nhangC {l : Launch} {a b c : Int32} : conOkI (MetP l 6 yX11_hang cX11_hang 4 (some .int) 0 0) [a, b, c] (-1) HI_hangC (fun τ => ¬ nd_hang a b c (decA (τ 202) 0)) := by
  intro τ hΦ hP h hh
  have hP : ¬ nd_hang a b c (decA (τ 202) 0) := hP
  have z := all2_cons hh
  clear hh
  obtain ⟨e0, h, rfl, g0, hh⟩ := z
  rcases e0 with ⟨t0, n0, f0⟩ | ⟨ci, fs⟩
  · exact g0.elim
  obtain ⟨rfl, gf⟩ := g0
  have z := all2_cons gf
  clear gf
  obtain ⟨v0, fs, rfl, q0, gf⟩ := z
  cases (q0 : v0 = .inr (some (.inl 1)))
  have z := all2_cons gf
  clear gf
  obtain ⟨v0, fs, rfl, q0, gf⟩ := z
  cases (q0 : v0 = .inr (some (.inl 5)))
  have z := all2_cons gf
  clear gf
  obtain ⟨v0, fs, rfl, q0, gf⟩ := z
  cases gT_r (τ := τ) (t := 0) (v := v0) rfl q0
  have z := all2_cons gf
  clear gf
  obtain ⟨v0, fs, rfl, q0, gf⟩ := z
  cases gT_r (τ := τ) (t := 1) (v := v0) rfl q0
  have z := all2_cons gf
  clear gf
  obtain ⟨v0, fs, rfl, q0, gf⟩ := z
  cases gT_r (τ := τ) (t := 2) (v := v0) rfl q0
  have z := all2_cons gf
  clear gf
  obtain ⟨v0, fs, rfl, q0, gf⟩ := z
  cases gT_r (τ := τ) (t := 3) (v := v0) rfl q0
  have z := all2_cons gf
  clear gf
  obtain ⟨v0, fs, rfl, q0, gf⟩ := z
  cases (q0 : v0 = .inr (some (.inl 3)))
  have z := all2_cons gf
  clear gf
  obtain ⟨v0, fs, rfl, q0, gf⟩ := z
  cases gT_r (τ := τ) (t := 4) (v := v0) rfl q0
  have z := all2_cons gf
  clear gf
  obtain ⟨v0, fs, rfl, q0, gf⟩ := z
  cases gT_r (τ := τ) (t := 5) (v := v0) rfl q0
  have z := all2_cons gf
  clear gf
  obtain ⟨v0, fs, rfl, q0, gf⟩ := z
  cases gT_r (τ := τ) (t := 6) (v := v0) rfl q0
  have z := all2_cons gf
  clear gf
  obtain ⟨v0, fs, rfl, q0, gf⟩ := z
  cases gT_r (τ := τ) (t := 7) (v := v0) rfl q0
  have z := all2_cons gf
  clear gf
  obtain ⟨v0, fs, rfl, q0, gf⟩ := z
  cases gT_r (τ := τ) (t := 8) (v := v0) rfl q0
  have z := all2_cons gf
  clear gf
  obtain ⟨v0, fs, rfl, q0, gf⟩ := z
  cases gT_r (τ := τ) (t := 9) (v := v0) rfl q0
  have z := all2_cons gf
  clear gf
  obtain ⟨v0, fs, rfl, q0, gf⟩ := z
  cases gT_r (τ := τ) (t := 10) (v := v0) rfl q0
  have z := all2_cons gf
  clear gf
  obtain ⟨v0, fs, rfl, q0, gf⟩ := z
  obtain ⟨HS_wasKept, rfl, e_HS_wasKept, b_HS_wasKept⟩ := gT_x (τ := τ) (t := 201) (v := v0) rfl q0
  cases fs with
  | cons _ _ => exact gf.elim
  | nil =>
    have z := all2_cons hh
    clear hh
    obtain ⟨e0, h, rfl, g0, hh⟩ := z
    rcases e0 with ⟨t0, n0, f0⟩ | ⟨ci, fs⟩
    · exact g0.elim
    obtain ⟨rfl, gf⟩ := g0
    have z := all2_cons gf
    clear gf
    obtain ⟨v0, fs, rfl, q0, gf⟩ := z
    cases (q0 : v0 = .inr (some (.inl 2)))
    have z := all2_cons gf
    clear gf
    obtain ⟨v0, fs, rfl, q0, gf⟩ := z
    obtain ⟨Tape_size, rfl, e_Tape_size, b_Tape_size⟩ := gT_x (τ := τ) (t := 202) (v := v0) rfl q0
    cases fs with
    | cons _ _ => exact gf.elim
    | nil =>
      have z := all2_cons hh
      clear hh
      obtain ⟨e1, h, rfl, g1, hh⟩ := z
      rcases e1 with ⟨t1, n1, Tape_bytes⟩ | ⟨ci, fs⟩
      rotate_left
      · exact g1.elim
      obtain ⟨et, en, b_Tape_bytes⟩ := g1
      cases (et : t1 = 0)
      cases en
      have z := all2_cons hh
      clear hh
      obtain ⟨e0, h, rfl, g0, hh⟩ := z
      rcases e0 with ⟨t0, n0, f0⟩ | ⟨ci, fs⟩
      · exact g0.elim
      obtain ⟨rfl, gf⟩ := g0
      have z := all2_cons gf
      clear gf
      obtain ⟨v0, fs, rfl, q0, gf⟩ := z
      cases (q0 : v0 = .inr (some (.inl 5)))
      have z := all2_cons gf
      clear gf
      obtain ⟨v0, fs, rfl, q0, gf⟩ := z
      cases (q0 : v0 = .inr (some (.inl 4)))
      have z := all2_cons gf
      clear gf
      obtain ⟨v0, fs, rfl, q0, gf⟩ := z
      obtain ⟨Crew_size, rfl, b_Crew_size⟩ := q0
      have z := all2_cons gf
      clear gf
      obtain ⟨v0, fs, rfl, q0, gf⟩ := z
      obtain ⟨Crew_acrossSum, rfl, b_Crew_acrossSum⟩ := q0
      have z := all2_cons gf
      clear gf
      obtain ⟨v0, fs, rfl, q0, gf⟩ := z
      obtain ⟨Crew_alongSum, rfl, b_Crew_alongSum⟩ := q0
      cases fs with
      | cons _ _ => exact gf.elim
      | nil =>
        have z := all2_cons hh
        clear hh
        obtain ⟨e1, h, rfl, g1, hh⟩ := z
        rcases e1 with ⟨t1, n1, Crew_members⟩ | ⟨ci, fs⟩
        rotate_left
        · exact g1.elim
        obtain ⟨et, en, b_Crew_members⟩ := g1
        cases (et : t1 = 0)
        cases en
        have z := all2_cons hh
        clear hh
        obtain ⟨e0, h, rfl, g0, hh⟩ := z
        rcases e0 with ⟨t0, n0, f0⟩ | ⟨ci, fs⟩
        · exact g0.elim
        obtain ⟨rfl, gf⟩ := g0
        have z := all2_cons gf
        clear gf
        obtain ⟨v0, fs, rfl, q0, gf⟩ := z
        cases (q0 : v0 = .inr (some (.inl 6)))
        have z := all2_cons gf
        clear gf
        obtain ⟨v0, fs, rfl, q0, gf⟩ := z
        cases (q0 : v0 = .inr (some (.inl 7)))
        have z := all2_cons gf
        clear gf
        obtain ⟨v0, fs, rfl, q0, gf⟩ := z
        cases (q0 : v0 = .inr (some (.inl 8)))
        have z := all2_cons gf
        clear gf
        obtain ⟨v0, fs, rfl, q0, gf⟩ := z
        cases (q0 : v0 = .inr (some (.inl 9)))
        have z := all2_cons gf
        clear gf
        obtain ⟨v0, fs, rfl, q0, gf⟩ := z
        cases (q0 : v0 = .inr (some (.inl 10)))
        have z := all2_cons gf
        clear gf
        obtain ⟨v0, fs, rfl, q0, gf⟩ := z
        obtain ⟨Rep_toldMints, rfl, e_Rep_toldMints, b_Rep_toldMints⟩ := gT_x (τ := τ) (t := 203) (v := v0) rfl q0
        have z := all2_cons gf
        clear gf
        obtain ⟨v0, fs, rfl, q0, gf⟩ := z
        obtain ⟨Rep_walls, rfl, b_Rep_walls⟩ := q0
        have z := all2_cons gf
        clear gf
        obtain ⟨v0, fs, rfl, q0, gf⟩ := z
        obtain ⟨Rep_stamps, rfl, e_Rep_stamps, b_Rep_stamps⟩ := gT_x (τ := τ) (t := 204) (v := v0) rfl q0
        cases fs with
        | cons _ _ => exact gf.elim
        | nil =>
          have z := all2_cons hh
          clear hh
          obtain ⟨e1, h, rfl, g1, hh⟩ := z
          rcases e1 with ⟨t1, n1, Rep_mintX⟩ | ⟨ci, fs⟩
          rotate_left
          · exact g1.elim
          obtain ⟨et, en, b_Rep_mintX⟩ := g1
          cases (et : t1 = 0)
          cases en
          have z := all2_cons hh
          clear hh
          obtain ⟨e1, h, rfl, g1, hh⟩ := z
          rcases e1 with ⟨t1, n1, Rep_mintY⟩ | ⟨ci, fs⟩
          rotate_left
          · exact g1.elim
          obtain ⟨et, en, b_Rep_mintY⟩ := g1
          cases (et : t1 = 0)
          cases en
          have z := all2_cons hh
          clear hh
          obtain ⟨e1, h, rfl, g1, hh⟩ := z
          rcases e1 with ⟨t1, n1, Rep_wall⟩ | ⟨ci, fs⟩
          rotate_left
          · exact g1.elim
          obtain ⟨et, en, b_Rep_wall⟩ := g1
          cases (et : t1 = 2)
          cases en
          have z := all2_cons hh
          clear hh
          obtain ⟨e1, h, rfl, g1, hh⟩ := z
          rcases e1 with ⟨t1, n1, Rep_mintOf⟩ | ⟨ci, fs⟩
          rotate_left
          · exact g1.elim
          obtain ⟨et, en, b_Rep_mintOf⟩ := g1
          cases (et : t1 = 0)
          cases en
          have z := all2_cons hh
          clear hh
          obtain ⟨e1, h, rfl, g1, hh⟩ := z
          rcases e1 with ⟨t1, n1, Rep_grainsOf⟩ | ⟨ci, fs⟩
          rotate_left
          · exact g1.elim
          obtain ⟨et, en, b_Rep_grainsOf⟩ := g1
          cases (et : t1 = 0)
          cases en
          cases h with
          | cons _ _ => exact hh.elim
          | nil =>
            rw [← e_Tape_size] at hP
            exact c_nhangC hP

set_option maxRecDepth 100000 in
theorem c_nhangR {l : Launch} {M_now M_aside M_kept M_isWall M_wasWall M_said M_waitsAt M_saidLetter M_saidFrom M_saidHalf M_saidTo M_codes M_clauseOf M_codeFrom M_codeHalf M_codeTo M_stack M_facts M_newStamps M_roundFrom M_roundAt M_roundTimes M_usesNow M_wasAt M_fewestFor M_getsOf : List (Option Nat)} {M_stampMany M_taped M_place0 M_length0 M_fault M_number0 M_open M_codeMany M_waiting M_saidMany M_clauses M_newMany M_rounds M_stampFrom M_stampTimes M_lines M_spot0 M_pullAcross M_pullAlong M_stepsNow M_fallenNow M_isKept : Int32} {M_mintAt M_mintOf M_wholeOf M_tape M_someOf : Nat → Int32}  {a b c : Int32} (hN : ¬ nd_hang a b c M_taped) : MetP l 3 yX12_hang cX12_hang 7 (some .int) 0 0 [.inr (some (.inl 0)), .inl a, .inl b, .inl c] [.inr (11, [.inr (some (.inr M_now)), .inr (some (.inr M_aside)), .inr (some (.inr M_kept)), .inr (some (.inl 1)), .inr (some (.inl 2)), .inr (some (.inl 3)), .inr (some (.inr M_isWall)), .inr (some (.inr M_wasWall)), .inl M_stampMany, .inr (some (.inl 4)), .inl M_taped, .inl M_place0, .inl M_length0, .inl M_fault, .inl M_number0, .inl M_open, .inl M_codeMany, .inl M_waiting, .inl M_saidMany, .inl M_clauses, .inr (some (.inr M_said)), .inr (some (.inr M_waitsAt)), .inr (some (.inr M_saidLetter)), .inr (some (.inr M_saidFrom)), .inr (some (.inr M_saidHalf)), .inr (some (.inr M_saidTo)), .inr (some (.inr M_codes)), .inr (some (.inr M_clauseOf)), .inr (some (.inr M_codeFrom)), .inr (some (.inr M_codeHalf)), .inr (some (.inr M_codeTo)), .inr (some (.inr M_stack)), .inr (some (.inr M_facts)), .inr (some (.inr M_newStamps)), .inr (some (.inr M_roundFrom)), .inr (some (.inr M_roundAt)), .inr (some (.inr M_roundTimes)), .inl M_newMany, .inl M_rounds, .inl M_stampFrom, .inl M_stampTimes, .inl M_lines, .inl M_spot0, .inl M_pullAcross, .inl M_pullAlong, .inl M_stepsNow, .inl M_fallenNow, .inr (some (.inr M_usesNow)), .inr (some (.inr M_wasAt)), .inr (some (.inl 5)), .inr (some (.inr M_fewestFor)), .inr (some (.inr M_getsOf)), .inl M_isKept]), .inl (0, 8, M_mintAt), .inl (0, 48, M_mintOf), .inl (0, 48, M_wholeOf), .inl (1, 260, M_tape), .inl (0, 9, M_someOf)] (fun r h' => r = some (.inl (-1)) ∧ h' = [.inr (11, [.inr (some (.inr M_now)), .inr (some (.inr M_aside)), .inr (some (.inr M_kept)), .inr (some (.inl 1)), .inr (some (.inl 2)), .inr (some (.inl 3)), .inr (some (.inr M_isWall)), .inr (some (.inr M_wasWall)), .inl M_stampMany, .inr (some (.inl 4)), .inl M_taped, .inl M_place0, .inl M_length0, .inl M_fault, .inl M_number0, .inl M_open, .inl M_codeMany, .inl M_waiting, .inl M_saidMany, .inl M_clauses, .inr (some (.inr M_said)), .inr (some (.inr M_waitsAt)), .inr (some (.inr M_saidLetter)), .inr (some (.inr M_saidFrom)), .inr (some (.inr M_saidHalf)), .inr (some (.inr M_saidTo)), .inr (some (.inr M_codes)), .inr (some (.inr M_clauseOf)), .inr (some (.inr M_codeFrom)), .inr (some (.inr M_codeHalf)), .inr (some (.inr M_codeTo)), .inr (some (.inr M_stack)), .inr (some (.inr M_facts)), .inr (some (.inr M_newStamps)), .inr (some (.inr M_roundFrom)), .inr (some (.inr M_roundAt)), .inr (some (.inr M_roundTimes)), .inl M_newMany, .inl M_rounds, .inl M_stampFrom, .inl M_stampTimes, .inl M_lines, .inl M_spot0, .inl M_pullAcross, .inl M_pullAlong, .inl M_stepsNow, .inl M_fallenNow, .inr (some (.inr M_usesNow)), .inr (some (.inr M_wasAt)), .inr (some (.inl 5)), .inr (some (.inr M_fewestFor)), .inr (some (.inr M_getsOf)), .inl M_isKept]), .inl (0, 8, M_mintAt), .inl (0, 48, M_mintOf), .inl (0, 48, M_wholeOf), .inl (1, 260, M_tape), .inl (0, 9, M_someOf)]) := by
  refine m_X12_hang (fun _ _ _ _ => False) (Nat.le_of_ble_eq_true rfl) ?_ (fun _ _ _ _ z => z.elim)
  refine call0 (c_in) rfl rfl ?_
  rintro r h' ⟨rfl, rfl⟩
  refine br_b (fun _ => ⟨rfl, rfl⟩) (fun g1 => ?_)
  refine call0 (c_misPlace) rfl rfl ?_
  rintro r h' ⟨rfl, rfl⟩
  refine br_b (fun _ => ⟨rfl, rfl⟩) (fun g2 => ?_)
  refine call0 (c_in) rfl rfl ?_
  rintro r h' ⟨rfl, rfl⟩
  refine br_b (fun _ => ⟨rfl, rfl⟩) (fun g3 => ?_)
  exact And.intro (fun g => absurd ⟨g1, g2, g3, g⟩ hN) (fun _ => ⟨rfl, rfl⟩)
def HI_hangR : List AC := hc_0146973389
set_option maxRecDepth 100000 in
theorem i_nhangR {l : Launch} {a b c : Int32} : conOkI (MetP l 3 yX12_hang cX12_hang 7 (some .int) 0 0) [a, b, c] (-1) HI_hangR (fun τ => ¬ nd_hang a b c (decA (τ 202) 0)) := by
  intro τ hΦ hP h hh
  have hP : ¬ nd_hang a b c (decA (τ 202) 0) := hP
  have z := all2_cons hh
  clear hh
  obtain ⟨e0, h, rfl, g0, hh⟩ := z
  rcases e0 with ⟨t0, n0, f0⟩ | ⟨ci, fs⟩
  · exact g0.elim
  obtain ⟨rfl, gf⟩ := g0
  have z := all2_cons gf
  clear gf
  obtain ⟨v0, fs, rfl, q0, gf⟩ := z
  cases gT_r (τ := τ) (t := 0) (v := v0) rfl q0
  have z := all2_cons gf
  clear gf
  obtain ⟨v0, fs, rfl, q0, gf⟩ := z
  cases gT_r (τ := τ) (t := 1) (v := v0) rfl q0
  have z := all2_cons gf
  clear gf
  obtain ⟨v0, fs, rfl, q0, gf⟩ := z
  cases gT_r (τ := τ) (t := 2) (v := v0) rfl q0
  have z := all2_cons gf
  clear gf
  obtain ⟨v0, fs, rfl, q0, gf⟩ := z
  cases (q0 : v0 = .inr (some (.inl 1)))
  have z := all2_cons gf
  clear gf
  obtain ⟨v0, fs, rfl, q0, gf⟩ := z
  cases (q0 : v0 = .inr (some (.inl 2)))
  have z := all2_cons gf
  clear gf
  obtain ⟨v0, fs, rfl, q0, gf⟩ := z
  cases (q0 : v0 = .inr (some (.inl 3)))
  have z := all2_cons gf
  clear gf
  obtain ⟨v0, fs, rfl, q0, gf⟩ := z
  cases gT_r (τ := τ) (t := 3) (v := v0) rfl q0
  have z := all2_cons gf
  clear gf
  obtain ⟨v0, fs, rfl, q0, gf⟩ := z
  cases gT_r (τ := τ) (t := 4) (v := v0) rfl q0
  have z := all2_cons gf
  clear gf
  obtain ⟨v0, fs, rfl, q0, gf⟩ := z
  obtain ⟨M_stampMany, rfl, e_M_stampMany, b_M_stampMany⟩ := gT_x (τ := τ) (t := 205) (v := v0) rfl q0
  have z := all2_cons gf
  clear gf
  obtain ⟨v0, fs, rfl, q0, gf⟩ := z
  cases (q0 : v0 = .inr (some (.inl 4)))
  have z := all2_cons gf
  clear gf
  obtain ⟨v0, fs, rfl, q0, gf⟩ := z
  obtain ⟨M_taped, rfl, e_M_taped, b_M_taped⟩ := gT_x (τ := τ) (t := 202) (v := v0) rfl q0
  have z := all2_cons gf
  clear gf
  obtain ⟨v0, fs, rfl, q0, gf⟩ := z
  obtain ⟨M_place0, rfl, b_M_place0⟩ := q0
  have z := all2_cons gf
  clear gf
  obtain ⟨v0, fs, rfl, q0, gf⟩ := z
  obtain ⟨M_length0, rfl, b_M_length0⟩ := q0
  have z := all2_cons gf
  clear gf
  obtain ⟨v0, fs, rfl, q0, gf⟩ := z
  obtain ⟨M_fault, rfl, b_M_fault⟩ := q0
  have z := all2_cons gf
  clear gf
  obtain ⟨v0, fs, rfl, q0, gf⟩ := z
  obtain ⟨M_number0, rfl, b_M_number0⟩ := q0
  have z := all2_cons gf
  clear gf
  obtain ⟨v0, fs, rfl, q0, gf⟩ := z
  obtain ⟨M_open, rfl, b_M_open⟩ := q0
  have z := all2_cons gf
  clear gf
  obtain ⟨v0, fs, rfl, q0, gf⟩ := z
  obtain ⟨M_codeMany, rfl, b_M_codeMany⟩ := q0
  have z := all2_cons gf
  clear gf
  obtain ⟨v0, fs, rfl, q0, gf⟩ := z
  obtain ⟨M_waiting, rfl, b_M_waiting⟩ := q0
  have z := all2_cons gf
  clear gf
  obtain ⟨v0, fs, rfl, q0, gf⟩ := z
  obtain ⟨M_saidMany, rfl, b_M_saidMany⟩ := q0
  have z := all2_cons gf
  clear gf
  obtain ⟨v0, fs, rfl, q0, gf⟩ := z
  obtain ⟨M_clauses, rfl, e_M_clauses, b_M_clauses⟩ := gT_x (τ := τ) (t := 200) (v := v0) rfl q0
  have z := all2_cons gf
  clear gf
  obtain ⟨v0, fs, rfl, q0, gf⟩ := z
  cases gT_r (τ := τ) (t := 5) (v := v0) rfl q0
  have z := all2_cons gf
  clear gf
  obtain ⟨v0, fs, rfl, q0, gf⟩ := z
  cases gT_r (τ := τ) (t := 6) (v := v0) rfl q0
  have z := all2_cons gf
  clear gf
  obtain ⟨v0, fs, rfl, q0, gf⟩ := z
  cases gT_r (τ := τ) (t := 7) (v := v0) rfl q0
  have z := all2_cons gf
  clear gf
  obtain ⟨v0, fs, rfl, q0, gf⟩ := z
  cases gT_r (τ := τ) (t := 8) (v := v0) rfl q0
  have z := all2_cons gf
  clear gf
  obtain ⟨v0, fs, rfl, q0, gf⟩ := z
  cases gT_r (τ := τ) (t := 9) (v := v0) rfl q0
  have z := all2_cons gf
  clear gf
  obtain ⟨v0, fs, rfl, q0, gf⟩ := z
  cases gT_r (τ := τ) (t := 10) (v := v0) rfl q0
  have z := all2_cons gf
  clear gf
  obtain ⟨v0, fs, rfl, q0, gf⟩ := z
  cases gT_r (τ := τ) (t := 11) (v := v0) rfl q0
  have z := all2_cons gf
  clear gf
  obtain ⟨v0, fs, rfl, q0, gf⟩ := z
  cases gT_r (τ := τ) (t := 12) (v := v0) rfl q0
  have z := all2_cons gf
  clear gf
  obtain ⟨v0, fs, rfl, q0, gf⟩ := z
  cases gT_r (τ := τ) (t := 13) (v := v0) rfl q0
  have z := all2_cons gf
  clear gf
  obtain ⟨v0, fs, rfl, q0, gf⟩ := z
  cases gT_r (τ := τ) (t := 14) (v := v0) rfl q0
  have z := all2_cons gf
  clear gf
  obtain ⟨v0, fs, rfl, q0, gf⟩ := z
  cases gT_r (τ := τ) (t := 15) (v := v0) rfl q0
  have z := all2_cons gf
  clear gf
  obtain ⟨v0, fs, rfl, q0, gf⟩ := z
  cases gT_r (τ := τ) (t := 16) (v := v0) rfl q0
  have z := all2_cons gf
  clear gf
  obtain ⟨v0, fs, rfl, q0, gf⟩ := z
  cases gT_r (τ := τ) (t := 17) (v := v0) rfl q0
  have z := all2_cons gf
  clear gf
  obtain ⟨v0, fs, rfl, q0, gf⟩ := z
  cases gT_r (τ := τ) (t := 18) (v := v0) rfl q0
  have z := all2_cons gf
  clear gf
  obtain ⟨v0, fs, rfl, q0, gf⟩ := z
  cases gT_r (τ := τ) (t := 19) (v := v0) rfl q0
  have z := all2_cons gf
  clear gf
  obtain ⟨v0, fs, rfl, q0, gf⟩ := z
  cases gT_r (τ := τ) (t := 20) (v := v0) rfl q0
  have z := all2_cons gf
  clear gf
  obtain ⟨v0, fs, rfl, q0, gf⟩ := z
  cases gT_r (τ := τ) (t := 21) (v := v0) rfl q0
  have z := all2_cons gf
  clear gf
  obtain ⟨v0, fs, rfl, q0, gf⟩ := z
  obtain ⟨M_newMany, rfl, b_M_newMany⟩ := q0
  have z := all2_cons gf
  clear gf
  obtain ⟨v0, fs, rfl, q0, gf⟩ := z
  obtain ⟨M_rounds, rfl, b_M_rounds⟩ := q0
  have z := all2_cons gf
  clear gf
  obtain ⟨v0, fs, rfl, q0, gf⟩ := z
  obtain ⟨M_stampFrom, rfl, b_M_stampFrom⟩ := q0
  have z := all2_cons gf
  clear gf
  obtain ⟨v0, fs, rfl, q0, gf⟩ := z
  obtain ⟨M_stampTimes, rfl, b_M_stampTimes⟩ := q0
  have z := all2_cons gf
  clear gf
  obtain ⟨v0, fs, rfl, q0, gf⟩ := z
  obtain ⟨M_lines, rfl, b_M_lines⟩ := q0
  have z := all2_cons gf
  clear gf
  obtain ⟨v0, fs, rfl, q0, gf⟩ := z
  obtain ⟨M_spot0, rfl, b_M_spot0⟩ := q0
  have z := all2_cons gf
  clear gf
  obtain ⟨v0, fs, rfl, q0, gf⟩ := z
  obtain ⟨M_pullAcross, rfl, b_M_pullAcross⟩ := q0
  have z := all2_cons gf
  clear gf
  obtain ⟨v0, fs, rfl, q0, gf⟩ := z
  obtain ⟨M_pullAlong, rfl, b_M_pullAlong⟩ := q0
  have z := all2_cons gf
  clear gf
  obtain ⟨v0, fs, rfl, q0, gf⟩ := z
  obtain ⟨M_stepsNow, rfl, b_M_stepsNow⟩ := q0
  have z := all2_cons gf
  clear gf
  obtain ⟨v0, fs, rfl, q0, gf⟩ := z
  obtain ⟨M_fallenNow, rfl, b_M_fallenNow⟩ := q0
  have z := all2_cons gf
  clear gf
  obtain ⟨v0, fs, rfl, q0, gf⟩ := z
  cases gT_r (τ := τ) (t := 22) (v := v0) rfl q0
  have z := all2_cons gf
  clear gf
  obtain ⟨v0, fs, rfl, q0, gf⟩ := z
  cases gT_r (τ := τ) (t := 23) (v := v0) rfl q0
  have z := all2_cons gf
  clear gf
  obtain ⟨v0, fs, rfl, q0, gf⟩ := z
  cases (q0 : v0 = .inr (some (.inl 5)))
  have z := all2_cons gf
  clear gf
  obtain ⟨v0, fs, rfl, q0, gf⟩ := z
  cases gT_r (τ := τ) (t := 24) (v := v0) rfl q0
  have z := all2_cons gf
  clear gf
  obtain ⟨v0, fs, rfl, q0, gf⟩ := z
  cases gT_r (τ := τ) (t := 25) (v := v0) rfl q0
  have z := all2_cons gf
  clear gf
  obtain ⟨v0, fs, rfl, q0, gf⟩ := z
  obtain ⟨M_isKept, rfl, e_M_isKept, b_M_isKept⟩ := gT_x (τ := τ) (t := 201) (v := v0) rfl q0
  cases fs with
  | cons _ _ => exact gf.elim
  | nil =>
    have z := all2_cons hh
    clear hh
    obtain ⟨e1, h, rfl, g1, hh⟩ := z
    rcases e1 with ⟨t1, n1, M_mintAt⟩ | ⟨ci, fs⟩
    rotate_left
    · exact g1.elim
    obtain ⟨et, en, b_M_mintAt⟩ := g1
    cases (et : t1 = 0)
    cases en
    have z := all2_cons hh
    clear hh
    obtain ⟨e1, h, rfl, g1, hh⟩ := z
    rcases e1 with ⟨t1, n1, M_mintOf⟩ | ⟨ci, fs⟩
    rotate_left
    · exact g1.elim
    obtain ⟨et, en, b_M_mintOf⟩ := g1
    cases (et : t1 = 0)
    cases en
    have z := all2_cons hh
    clear hh
    obtain ⟨e1, h, rfl, g1, hh⟩ := z
    rcases e1 with ⟨t1, n1, M_wholeOf⟩ | ⟨ci, fs⟩
    rotate_left
    · exact g1.elim
    obtain ⟨et, en, b_M_wholeOf⟩ := g1
    cases (et : t1 = 0)
    cases en
    have z := all2_cons hh
    clear hh
    obtain ⟨e1, h, rfl, g1, hh⟩ := z
    rcases e1 with ⟨t1, n1, M_tape⟩ | ⟨ci, fs⟩
    rotate_left
    · exact g1.elim
    obtain ⟨et, en, b_M_tape⟩ := g1
    cases (et : t1 = 1)
    cases en
    have z := all2_cons hh
    clear hh
    obtain ⟨e1, h, rfl, g1, hh⟩ := z
    rcases e1 with ⟨t1, n1, M_someOf⟩ | ⟨ci, fs⟩
    rotate_left
    · exact g1.elim
    obtain ⟨et, en, b_M_someOf⟩ := g1
    cases (et : t1 = 0)
    cases en
    cases h with
    | cons _ _ => exact hh.elim
    | nil =>
      rw [← e_M_taped] at hP
      exact c_nhangR hP

def nd_falseOnes (a b c d e s : Int32) : Prop := (1 ≤ a ∧ a ≤ 9) ∧ (0 ≤ b ∧ b ≤ 383) ∧ ((-1) ≤ c ∧ c ≤ 1) ∧ ((-1) ≤ d ∧ d ≤ 1) ∧ (0 ≤ e ∧ e ≤ 1) ∧ a ≤ s
set_option maxRecDepth 100000 in
theorem c_nfalseOnesC {l : Launch} {HS_now HS_kept HS_trial HS_clerk HS_riddles HS_sheetReader HS_postReader HS_lawReader HS_seen HS_rules HS_spareRules : List (Option Nat)} {HS_wasKept Tape_size Crew_size Crew_acrossSum Crew_alongSum Rep_toldMints Rep_walls Rep_stamps : Int32} {Tape_bytes Crew_members Rep_mintX Rep_mintY Rep_wall Rep_mintOf Rep_grainsOf : Nat → Int32}  {a b c d e : Int32} (hN : ¬ nd_falseOnes a b c d e Tape_size) : MetP l 6 yX11_falseOnes cX11_falseOnes 6 (some .int) 0 0 [.inr (some (.inl 0)), .inl a, .inl b, .inl c, .inl d, .inl e] [.inr (10, [.inr (some (.inl 1)), .inr (some (.inl 5)), .inr (some (.inr HS_now)), .inr (some (.inr HS_kept)), .inr (some (.inr HS_trial)), .inr (some (.inr HS_clerk)), .inr (some (.inl 3)), .inr (some (.inr HS_riddles)), .inr (some (.inr HS_sheetReader)), .inr (some (.inr HS_postReader)), .inr (some (.inr HS_lawReader)), .inr (some (.inr HS_seen)), .inr (some (.inr HS_rules)), .inr (some (.inr HS_spareRules)), .inl HS_wasKept]), .inr (9, [.inr (some (.inl 2)), .inl Tape_size]), .inl (0, 260, Tape_bytes), .inr (1, [.inr (some (.inl 5)), .inr (some (.inl 4)), .inl Crew_size, .inl Crew_acrossSum, .inl Crew_alongSum]), .inl (0, 9, Crew_members), .inr (6, [.inr (some (.inl 6)), .inr (some (.inl 7)), .inr (some (.inl 8)), .inr (some (.inl 9)), .inr (some (.inl 10)), .inl Rep_toldMints, .inl Rep_walls, .inl Rep_stamps]), .inl (0, 8, Rep_mintX), .inl (0, 8, Rep_mintY), .inl (2, 384, Rep_wall), .inl (0, 48, Rep_mintOf), .inl (0, 48, Rep_grainsOf)] (fun r h' => r = some (.inl (-1)) ∧ h' = [.inr (10, [.inr (some (.inl 1)), .inr (some (.inl 5)), .inr (some (.inr HS_now)), .inr (some (.inr HS_kept)), .inr (some (.inr HS_trial)), .inr (some (.inr HS_clerk)), .inr (some (.inl 3)), .inr (some (.inr HS_riddles)), .inr (some (.inr HS_sheetReader)), .inr (some (.inr HS_postReader)), .inr (some (.inr HS_lawReader)), .inr (some (.inr HS_seen)), .inr (some (.inr HS_rules)), .inr (some (.inr HS_spareRules)), .inl HS_wasKept]), .inr (9, [.inr (some (.inl 2)), .inl Tape_size]), .inl (0, 260, Tape_bytes), .inr (1, [.inr (some (.inl 5)), .inr (some (.inl 4)), .inl Crew_size, .inl Crew_acrossSum, .inl Crew_alongSum]), .inl (0, 9, Crew_members), .inr (6, [.inr (some (.inl 6)), .inr (some (.inl 7)), .inr (some (.inl 8)), .inr (some (.inl 9)), .inr (some (.inl 10)), .inl Rep_toldMints, .inl Rep_walls, .inl Rep_stamps]), .inl (0, 8, Rep_mintX), .inl (0, 8, Rep_mintY), .inl (2, 384, Rep_wall), .inl (0, 48, Rep_mintOf), .inl (0, 48, Rep_grainsOf)]) := by
  refine m_X11_falseOnes  (Nat.le_of_ble_eq_true rfl) ?_ 
  refine call0 (c_isPlace) rfl rfl ?_
  rintro r h' ⟨rfl, rfl⟩
  refine br_b (fun _ => ⟨rfl, rfl⟩) (fun g1 => ?_)
  refine call0 (c_within) rfl rfl ?_
  rintro r h' ⟨rfl, rfl⟩
  refine br_b (fun _ => ⟨rfl, rfl⟩) (fun g2 => ?_)
  refine call0 (c_within) rfl rfl ?_
  rintro r h' ⟨rfl, rfl⟩
  refine br_b (fun _ => ⟨rfl, rfl⟩) (fun g3 => ?_)
  refine call0 (c_within) rfl rfl ?_
  rintro r h' ⟨rfl, rfl⟩
  refine br_b (fun _ => ⟨rfl, rfl⟩) (fun g4 => ?_)
  refine call0 (c_canGive) rfl rfl ?_
  rintro r h' ⟨rfl, rfl⟩
  exact br_b (fun _ => ⟨rfl, rfl⟩) (fun g => absurd ⟨g.1, g1, g2, g3, g4, g.2⟩ hN)
def HI_falseOnesC : List AC := hc_799d656d53
set_option maxRecDepth 100000 in
theorem i_nfalseOnesC {l : Launch} {a b c d e : Int32} : conOkI (MetP l 6 yX11_falseOnes cX11_falseOnes 6 (some .int) 0 0) [a, b, c, d, e] (-1) HI_falseOnesC (fun τ => ¬ nd_falseOnes a b c d e (decA (τ 202) 0)) := by
  intro τ hΦ hP h hh
  have hP : ¬ nd_falseOnes a b c d e (decA (τ 202) 0) := hP
  have z := all2_cons hh
  clear hh
  obtain ⟨e0, h, rfl, g0, hh⟩ := z
  rcases e0 with ⟨t0, n0, f0⟩ | ⟨ci, fs⟩
  · exact g0.elim
  obtain ⟨rfl, gf⟩ := g0
  have z := all2_cons gf
  clear gf
  obtain ⟨v0, fs, rfl, q0, gf⟩ := z
  cases (q0 : v0 = .inr (some (.inl 1)))
  have z := all2_cons gf
  clear gf
  obtain ⟨v0, fs, rfl, q0, gf⟩ := z
  cases (q0 : v0 = .inr (some (.inl 5)))
  have z := all2_cons gf
  clear gf
  obtain ⟨v0, fs, rfl, q0, gf⟩ := z
  cases gT_r (τ := τ) (t := 0) (v := v0) rfl q0
  have z := all2_cons gf
  clear gf
  obtain ⟨v0, fs, rfl, q0, gf⟩ := z
  cases gT_r (τ := τ) (t := 1) (v := v0) rfl q0
  have z := all2_cons gf
  clear gf
  obtain ⟨v0, fs, rfl, q0, gf⟩ := z
  cases gT_r (τ := τ) (t := 2) (v := v0) rfl q0
  have z := all2_cons gf
  clear gf
  obtain ⟨v0, fs, rfl, q0, gf⟩ := z
  cases gT_r (τ := τ) (t := 3) (v := v0) rfl q0
  have z := all2_cons gf
  clear gf
  obtain ⟨v0, fs, rfl, q0, gf⟩ := z
  cases (q0 : v0 = .inr (some (.inl 3)))
  have z := all2_cons gf
  clear gf
  obtain ⟨v0, fs, rfl, q0, gf⟩ := z
  cases gT_r (τ := τ) (t := 4) (v := v0) rfl q0
  have z := all2_cons gf
  clear gf
  obtain ⟨v0, fs, rfl, q0, gf⟩ := z
  cases gT_r (τ := τ) (t := 5) (v := v0) rfl q0
  have z := all2_cons gf
  clear gf
  obtain ⟨v0, fs, rfl, q0, gf⟩ := z
  cases gT_r (τ := τ) (t := 6) (v := v0) rfl q0
  have z := all2_cons gf
  clear gf
  obtain ⟨v0, fs, rfl, q0, gf⟩ := z
  cases gT_r (τ := τ) (t := 7) (v := v0) rfl q0
  have z := all2_cons gf
  clear gf
  obtain ⟨v0, fs, rfl, q0, gf⟩ := z
  cases gT_r (τ := τ) (t := 8) (v := v0) rfl q0
  have z := all2_cons gf
  clear gf
  obtain ⟨v0, fs, rfl, q0, gf⟩ := z
  cases gT_r (τ := τ) (t := 9) (v := v0) rfl q0
  have z := all2_cons gf
  clear gf
  obtain ⟨v0, fs, rfl, q0, gf⟩ := z
  cases gT_r (τ := τ) (t := 10) (v := v0) rfl q0
  have z := all2_cons gf
  clear gf
  obtain ⟨v0, fs, rfl, q0, gf⟩ := z
  obtain ⟨HS_wasKept, rfl, e_HS_wasKept, b_HS_wasKept⟩ := gT_x (τ := τ) (t := 201) (v := v0) rfl q0
  cases fs with
  | cons _ _ => exact gf.elim
  | nil =>
    have z := all2_cons hh
    clear hh
    obtain ⟨e0, h, rfl, g0, hh⟩ := z
    rcases e0 with ⟨t0, n0, f0⟩ | ⟨ci, fs⟩
    · exact g0.elim
    obtain ⟨rfl, gf⟩ := g0
    have z := all2_cons gf
    clear gf
    obtain ⟨v0, fs, rfl, q0, gf⟩ := z
    cases (q0 : v0 = .inr (some (.inl 2)))
    have z := all2_cons gf
    clear gf
    obtain ⟨v0, fs, rfl, q0, gf⟩ := z
    obtain ⟨Tape_size, rfl, e_Tape_size, b_Tape_size⟩ := gT_x (τ := τ) (t := 202) (v := v0) rfl q0
    cases fs with
    | cons _ _ => exact gf.elim
    | nil =>
      have z := all2_cons hh
      clear hh
      obtain ⟨e1, h, rfl, g1, hh⟩ := z
      rcases e1 with ⟨t1, n1, Tape_bytes⟩ | ⟨ci, fs⟩
      rotate_left
      · exact g1.elim
      obtain ⟨et, en, b_Tape_bytes⟩ := g1
      cases (et : t1 = 0)
      cases en
      have z := all2_cons hh
      clear hh
      obtain ⟨e0, h, rfl, g0, hh⟩ := z
      rcases e0 with ⟨t0, n0, f0⟩ | ⟨ci, fs⟩
      · exact g0.elim
      obtain ⟨rfl, gf⟩ := g0
      have z := all2_cons gf
      clear gf
      obtain ⟨v0, fs, rfl, q0, gf⟩ := z
      cases (q0 : v0 = .inr (some (.inl 5)))
      have z := all2_cons gf
      clear gf
      obtain ⟨v0, fs, rfl, q0, gf⟩ := z
      cases (q0 : v0 = .inr (some (.inl 4)))
      have z := all2_cons gf
      clear gf
      obtain ⟨v0, fs, rfl, q0, gf⟩ := z
      obtain ⟨Crew_size, rfl, b_Crew_size⟩ := q0
      have z := all2_cons gf
      clear gf
      obtain ⟨v0, fs, rfl, q0, gf⟩ := z
      obtain ⟨Crew_acrossSum, rfl, b_Crew_acrossSum⟩ := q0
      have z := all2_cons gf
      clear gf
      obtain ⟨v0, fs, rfl, q0, gf⟩ := z
      obtain ⟨Crew_alongSum, rfl, b_Crew_alongSum⟩ := q0
      cases fs with
      | cons _ _ => exact gf.elim
      | nil =>
        have z := all2_cons hh
        clear hh
        obtain ⟨e1, h, rfl, g1, hh⟩ := z
        rcases e1 with ⟨t1, n1, Crew_members⟩ | ⟨ci, fs⟩
        rotate_left
        · exact g1.elim
        obtain ⟨et, en, b_Crew_members⟩ := g1
        cases (et : t1 = 0)
        cases en
        have z := all2_cons hh
        clear hh
        obtain ⟨e0, h, rfl, g0, hh⟩ := z
        rcases e0 with ⟨t0, n0, f0⟩ | ⟨ci, fs⟩
        · exact g0.elim
        obtain ⟨rfl, gf⟩ := g0
        have z := all2_cons gf
        clear gf
        obtain ⟨v0, fs, rfl, q0, gf⟩ := z
        cases (q0 : v0 = .inr (some (.inl 6)))
        have z := all2_cons gf
        clear gf
        obtain ⟨v0, fs, rfl, q0, gf⟩ := z
        cases (q0 : v0 = .inr (some (.inl 7)))
        have z := all2_cons gf
        clear gf
        obtain ⟨v0, fs, rfl, q0, gf⟩ := z
        cases (q0 : v0 = .inr (some (.inl 8)))
        have z := all2_cons gf
        clear gf
        obtain ⟨v0, fs, rfl, q0, gf⟩ := z
        cases (q0 : v0 = .inr (some (.inl 9)))
        have z := all2_cons gf
        clear gf
        obtain ⟨v0, fs, rfl, q0, gf⟩ := z
        cases (q0 : v0 = .inr (some (.inl 10)))
        have z := all2_cons gf
        clear gf
        obtain ⟨v0, fs, rfl, q0, gf⟩ := z
        obtain ⟨Rep_toldMints, rfl, e_Rep_toldMints, b_Rep_toldMints⟩ := gT_x (τ := τ) (t := 203) (v := v0) rfl q0
        have z := all2_cons gf
        clear gf
        obtain ⟨v0, fs, rfl, q0, gf⟩ := z
        obtain ⟨Rep_walls, rfl, b_Rep_walls⟩ := q0
        have z := all2_cons gf
        clear gf
        obtain ⟨v0, fs, rfl, q0, gf⟩ := z
        obtain ⟨Rep_stamps, rfl, e_Rep_stamps, b_Rep_stamps⟩ := gT_x (τ := τ) (t := 204) (v := v0) rfl q0
        cases fs with
        | cons _ _ => exact gf.elim
        | nil =>
          have z := all2_cons hh
          clear hh
          obtain ⟨e1, h, rfl, g1, hh⟩ := z
          rcases e1 with ⟨t1, n1, Rep_mintX⟩ | ⟨ci, fs⟩
          rotate_left
          · exact g1.elim
          obtain ⟨et, en, b_Rep_mintX⟩ := g1
          cases (et : t1 = 0)
          cases en
          have z := all2_cons hh
          clear hh
          obtain ⟨e1, h, rfl, g1, hh⟩ := z
          rcases e1 with ⟨t1, n1, Rep_mintY⟩ | ⟨ci, fs⟩
          rotate_left
          · exact g1.elim
          obtain ⟨et, en, b_Rep_mintY⟩ := g1
          cases (et : t1 = 0)
          cases en
          have z := all2_cons hh
          clear hh
          obtain ⟨e1, h, rfl, g1, hh⟩ := z
          rcases e1 with ⟨t1, n1, Rep_wall⟩ | ⟨ci, fs⟩
          rotate_left
          · exact g1.elim
          obtain ⟨et, en, b_Rep_wall⟩ := g1
          cases (et : t1 = 2)
          cases en
          have z := all2_cons hh
          clear hh
          obtain ⟨e1, h, rfl, g1, hh⟩ := z
          rcases e1 with ⟨t1, n1, Rep_mintOf⟩ | ⟨ci, fs⟩
          rotate_left
          · exact g1.elim
          obtain ⟨et, en, b_Rep_mintOf⟩ := g1
          cases (et : t1 = 0)
          cases en
          have z := all2_cons hh
          clear hh
          obtain ⟨e1, h, rfl, g1, hh⟩ := z
          rcases e1 with ⟨t1, n1, Rep_grainsOf⟩ | ⟨ci, fs⟩
          rotate_left
          · exact g1.elim
          obtain ⟨et, en, b_Rep_grainsOf⟩ := g1
          cases (et : t1 = 0)
          cases en
          cases h with
          | cons _ _ => exact hh.elim
          | nil =>
            rw [← e_Tape_size] at hP
            exact c_nfalseOnesC hP

set_option maxRecDepth 100000 in
theorem c_nfalseOnesR {l : Launch} {M_now M_aside M_kept M_isWall M_wasWall M_said M_waitsAt M_saidLetter M_saidFrom M_saidHalf M_saidTo M_codes M_clauseOf M_codeFrom M_codeHalf M_codeTo M_stack M_facts M_newStamps M_roundFrom M_roundAt M_roundTimes M_usesNow M_wasAt M_fewestFor M_getsOf : List (Option Nat)} {M_stampMany M_taped M_place0 M_length0 M_fault M_number0 M_open M_codeMany M_waiting M_saidMany M_clauses M_newMany M_rounds M_stampFrom M_stampTimes M_lines M_spot0 M_pullAcross M_pullAlong M_stepsNow M_fallenNow M_isKept : Int32} {M_mintAt M_mintOf M_wholeOf M_tape M_someOf : Nat → Int32}  {a b c d e : Int32} (hN : ¬ nd_falseOnes a b c d e M_taped) : MetP l 3 yX12_falseOnes cX12_falseOnes 14 (some .int) 0 0 [.inr (some (.inl 0)), .inl a, .inl b, .inl c, .inl d, .inl e] [.inr (11, [.inr (some (.inr M_now)), .inr (some (.inr M_aside)), .inr (some (.inr M_kept)), .inr (some (.inl 1)), .inr (some (.inl 2)), .inr (some (.inl 3)), .inr (some (.inr M_isWall)), .inr (some (.inr M_wasWall)), .inl M_stampMany, .inr (some (.inl 4)), .inl M_taped, .inl M_place0, .inl M_length0, .inl M_fault, .inl M_number0, .inl M_open, .inl M_codeMany, .inl M_waiting, .inl M_saidMany, .inl M_clauses, .inr (some (.inr M_said)), .inr (some (.inr M_waitsAt)), .inr (some (.inr M_saidLetter)), .inr (some (.inr M_saidFrom)), .inr (some (.inr M_saidHalf)), .inr (some (.inr M_saidTo)), .inr (some (.inr M_codes)), .inr (some (.inr M_clauseOf)), .inr (some (.inr M_codeFrom)), .inr (some (.inr M_codeHalf)), .inr (some (.inr M_codeTo)), .inr (some (.inr M_stack)), .inr (some (.inr M_facts)), .inr (some (.inr M_newStamps)), .inr (some (.inr M_roundFrom)), .inr (some (.inr M_roundAt)), .inr (some (.inr M_roundTimes)), .inl M_newMany, .inl M_rounds, .inl M_stampFrom, .inl M_stampTimes, .inl M_lines, .inl M_spot0, .inl M_pullAcross, .inl M_pullAlong, .inl M_stepsNow, .inl M_fallenNow, .inr (some (.inr M_usesNow)), .inr (some (.inr M_wasAt)), .inr (some (.inl 5)), .inr (some (.inr M_fewestFor)), .inr (some (.inr M_getsOf)), .inl M_isKept]), .inl (0, 8, M_mintAt), .inl (0, 48, M_mintOf), .inl (0, 48, M_wholeOf), .inl (1, 260, M_tape), .inl (0, 9, M_someOf)] (fun r h' => r = some (.inl (-1)) ∧ h' = [.inr (11, [.inr (some (.inr M_now)), .inr (some (.inr M_aside)), .inr (some (.inr M_kept)), .inr (some (.inl 1)), .inr (some (.inl 2)), .inr (some (.inl 3)), .inr (some (.inr M_isWall)), .inr (some (.inr M_wasWall)), .inl M_stampMany, .inr (some (.inl 4)), .inl M_taped, .inl M_place0, .inl M_length0, .inl M_fault, .inl M_number0, .inl M_open, .inl M_codeMany, .inl M_waiting, .inl M_saidMany, .inl M_clauses, .inr (some (.inr M_said)), .inr (some (.inr M_waitsAt)), .inr (some (.inr M_saidLetter)), .inr (some (.inr M_saidFrom)), .inr (some (.inr M_saidHalf)), .inr (some (.inr M_saidTo)), .inr (some (.inr M_codes)), .inr (some (.inr M_clauseOf)), .inr (some (.inr M_codeFrom)), .inr (some (.inr M_codeHalf)), .inr (some (.inr M_codeTo)), .inr (some (.inr M_stack)), .inr (some (.inr M_facts)), .inr (some (.inr M_newStamps)), .inr (some (.inr M_roundFrom)), .inr (some (.inr M_roundAt)), .inr (some (.inr M_roundTimes)), .inl M_newMany, .inl M_rounds, .inl M_stampFrom, .inl M_stampTimes, .inl M_lines, .inl M_spot0, .inl M_pullAcross, .inl M_pullAlong, .inl M_stepsNow, .inl M_fallenNow, .inr (some (.inr M_usesNow)), .inr (some (.inr M_wasAt)), .inr (some (.inl 5)), .inr (some (.inr M_fewestFor)), .inr (some (.inr M_getsOf)), .inl M_isKept]), .inl (0, 8, M_mintAt), .inl (0, 48, M_mintOf), .inl (0, 48, M_wholeOf), .inl (1, 260, M_tape), .inl (0, 9, M_someOf)]) := by
  refine m_X12_falseOnes (fun _ _ _ _ => False) (fun _ _ _ _ => False) (Nat.le_of_ble_eq_true rfl) ?_ (fun _ _ _ _ z => z.elim) (fun _ _ _ _ z => z.elim)
  refine call0 (c_in) rfl rfl ?_
  rintro r h' ⟨rfl, rfl⟩
  refine br_b (fun _ => ⟨rfl, rfl⟩) (fun g1 => ?_)
  refine call0 (c_misPlace) rfl rfl ?_
  rintro r h' ⟨rfl, rfl⟩
  refine br_b (fun _ => ⟨rfl, rfl⟩) (fun g2 => ?_)
  refine call0 (c_in) rfl rfl ?_
  rintro r h' ⟨rfl, rfl⟩
  refine br_b (fun _ => ⟨rfl, rfl⟩) (fun g3 => ?_)
  refine call0 (c_in) rfl rfl ?_
  rintro r h' ⟨rfl, rfl⟩
  refine br_b (fun _ => ⟨rfl, rfl⟩) (fun g4 => ?_)
  refine call0 (c_in) rfl rfl ?_
  rintro r h' ⟨rfl, rfl⟩
  refine br_b (fun _ => ⟨rfl, rfl⟩) (fun g5 => ?_)
  exact And.intro (fun g => absurd ⟨g1, g2, g3, g4, g5, g⟩ hN) (fun _ => ⟨rfl, rfl⟩)
def HI_falseOnesR : List AC := hc_0146973389
set_option maxRecDepth 100000 in
theorem i_nfalseOnesR {l : Launch} {a b c d e : Int32} : conOkI (MetP l 3 yX12_falseOnes cX12_falseOnes 14 (some .int) 0 0) [a, b, c, d, e] (-1) HI_falseOnesR (fun τ => ¬ nd_falseOnes a b c d e (decA (τ 202) 0)) := by
  intro τ hΦ hP h hh
  have hP : ¬ nd_falseOnes a b c d e (decA (τ 202) 0) := hP
  have z := all2_cons hh
  clear hh
  obtain ⟨e0, h, rfl, g0, hh⟩ := z
  rcases e0 with ⟨t0, n0, f0⟩ | ⟨ci, fs⟩
  · exact g0.elim
  obtain ⟨rfl, gf⟩ := g0
  have z := all2_cons gf
  clear gf
  obtain ⟨v0, fs, rfl, q0, gf⟩ := z
  cases gT_r (τ := τ) (t := 0) (v := v0) rfl q0
  have z := all2_cons gf
  clear gf
  obtain ⟨v0, fs, rfl, q0, gf⟩ := z
  cases gT_r (τ := τ) (t := 1) (v := v0) rfl q0
  have z := all2_cons gf
  clear gf
  obtain ⟨v0, fs, rfl, q0, gf⟩ := z
  cases gT_r (τ := τ) (t := 2) (v := v0) rfl q0
  have z := all2_cons gf
  clear gf
  obtain ⟨v0, fs, rfl, q0, gf⟩ := z
  cases (q0 : v0 = .inr (some (.inl 1)))
  have z := all2_cons gf
  clear gf
  obtain ⟨v0, fs, rfl, q0, gf⟩ := z
  cases (q0 : v0 = .inr (some (.inl 2)))
  have z := all2_cons gf
  clear gf
  obtain ⟨v0, fs, rfl, q0, gf⟩ := z
  cases (q0 : v0 = .inr (some (.inl 3)))
  have z := all2_cons gf
  clear gf
  obtain ⟨v0, fs, rfl, q0, gf⟩ := z
  cases gT_r (τ := τ) (t := 3) (v := v0) rfl q0
  have z := all2_cons gf
  clear gf
  obtain ⟨v0, fs, rfl, q0, gf⟩ := z
  cases gT_r (τ := τ) (t := 4) (v := v0) rfl q0
  have z := all2_cons gf
  clear gf
  obtain ⟨v0, fs, rfl, q0, gf⟩ := z
  obtain ⟨M_stampMany, rfl, e_M_stampMany, b_M_stampMany⟩ := gT_x (τ := τ) (t := 205) (v := v0) rfl q0
  have z := all2_cons gf
  clear gf
  obtain ⟨v0, fs, rfl, q0, gf⟩ := z
  cases (q0 : v0 = .inr (some (.inl 4)))
  have z := all2_cons gf
  clear gf
  obtain ⟨v0, fs, rfl, q0, gf⟩ := z
  obtain ⟨M_taped, rfl, e_M_taped, b_M_taped⟩ := gT_x (τ := τ) (t := 202) (v := v0) rfl q0
  have z := all2_cons gf
  clear gf
  obtain ⟨v0, fs, rfl, q0, gf⟩ := z
  obtain ⟨M_place0, rfl, b_M_place0⟩ := q0
  have z := all2_cons gf
  clear gf
  obtain ⟨v0, fs, rfl, q0, gf⟩ := z
  obtain ⟨M_length0, rfl, b_M_length0⟩ := q0
  have z := all2_cons gf
  clear gf
  obtain ⟨v0, fs, rfl, q0, gf⟩ := z
  obtain ⟨M_fault, rfl, b_M_fault⟩ := q0
  have z := all2_cons gf
  clear gf
  obtain ⟨v0, fs, rfl, q0, gf⟩ := z
  obtain ⟨M_number0, rfl, b_M_number0⟩ := q0
  have z := all2_cons gf
  clear gf
  obtain ⟨v0, fs, rfl, q0, gf⟩ := z
  obtain ⟨M_open, rfl, b_M_open⟩ := q0
  have z := all2_cons gf
  clear gf
  obtain ⟨v0, fs, rfl, q0, gf⟩ := z
  obtain ⟨M_codeMany, rfl, b_M_codeMany⟩ := q0
  have z := all2_cons gf
  clear gf
  obtain ⟨v0, fs, rfl, q0, gf⟩ := z
  obtain ⟨M_waiting, rfl, b_M_waiting⟩ := q0
  have z := all2_cons gf
  clear gf
  obtain ⟨v0, fs, rfl, q0, gf⟩ := z
  obtain ⟨M_saidMany, rfl, b_M_saidMany⟩ := q0
  have z := all2_cons gf
  clear gf
  obtain ⟨v0, fs, rfl, q0, gf⟩ := z
  obtain ⟨M_clauses, rfl, e_M_clauses, b_M_clauses⟩ := gT_x (τ := τ) (t := 200) (v := v0) rfl q0
  have z := all2_cons gf
  clear gf
  obtain ⟨v0, fs, rfl, q0, gf⟩ := z
  cases gT_r (τ := τ) (t := 5) (v := v0) rfl q0
  have z := all2_cons gf
  clear gf
  obtain ⟨v0, fs, rfl, q0, gf⟩ := z
  cases gT_r (τ := τ) (t := 6) (v := v0) rfl q0
  have z := all2_cons gf
  clear gf
  obtain ⟨v0, fs, rfl, q0, gf⟩ := z
  cases gT_r (τ := τ) (t := 7) (v := v0) rfl q0
  have z := all2_cons gf
  clear gf
  obtain ⟨v0, fs, rfl, q0, gf⟩ := z
  cases gT_r (τ := τ) (t := 8) (v := v0) rfl q0
  have z := all2_cons gf
  clear gf
  obtain ⟨v0, fs, rfl, q0, gf⟩ := z
  cases gT_r (τ := τ) (t := 9) (v := v0) rfl q0
  have z := all2_cons gf
  clear gf
  obtain ⟨v0, fs, rfl, q0, gf⟩ := z
  cases gT_r (τ := τ) (t := 10) (v := v0) rfl q0
  have z := all2_cons gf
  clear gf
  obtain ⟨v0, fs, rfl, q0, gf⟩ := z
  cases gT_r (τ := τ) (t := 11) (v := v0) rfl q0
  have z := all2_cons gf
  clear gf
  obtain ⟨v0, fs, rfl, q0, gf⟩ := z
  cases gT_r (τ := τ) (t := 12) (v := v0) rfl q0
  have z := all2_cons gf
  clear gf
  obtain ⟨v0, fs, rfl, q0, gf⟩ := z
  cases gT_r (τ := τ) (t := 13) (v := v0) rfl q0
  have z := all2_cons gf
  clear gf
  obtain ⟨v0, fs, rfl, q0, gf⟩ := z
  cases gT_r (τ := τ) (t := 14) (v := v0) rfl q0
  have z := all2_cons gf
  clear gf
  obtain ⟨v0, fs, rfl, q0, gf⟩ := z
  cases gT_r (τ := τ) (t := 15) (v := v0) rfl q0
  have z := all2_cons gf
  clear gf
  obtain ⟨v0, fs, rfl, q0, gf⟩ := z
  cases gT_r (τ := τ) (t := 16) (v := v0) rfl q0
  have z := all2_cons gf
  clear gf
  obtain ⟨v0, fs, rfl, q0, gf⟩ := z
  cases gT_r (τ := τ) (t := 17) (v := v0) rfl q0
  have z := all2_cons gf
  clear gf
  obtain ⟨v0, fs, rfl, q0, gf⟩ := z
  cases gT_r (τ := τ) (t := 18) (v := v0) rfl q0
  have z := all2_cons gf
  clear gf
  obtain ⟨v0, fs, rfl, q0, gf⟩ := z
  cases gT_r (τ := τ) (t := 19) (v := v0) rfl q0
  have z := all2_cons gf
  clear gf
  obtain ⟨v0, fs, rfl, q0, gf⟩ := z
  cases gT_r (τ := τ) (t := 20) (v := v0) rfl q0
  have z := all2_cons gf
  clear gf
  obtain ⟨v0, fs, rfl, q0, gf⟩ := z
  cases gT_r (τ := τ) (t := 21) (v := v0) rfl q0
  have z := all2_cons gf
  clear gf
  obtain ⟨v0, fs, rfl, q0, gf⟩ := z
  obtain ⟨M_newMany, rfl, b_M_newMany⟩ := q0
  have z := all2_cons gf
  clear gf
  obtain ⟨v0, fs, rfl, q0, gf⟩ := z
  obtain ⟨M_rounds, rfl, b_M_rounds⟩ := q0
  have z := all2_cons gf
  clear gf
  obtain ⟨v0, fs, rfl, q0, gf⟩ := z
  obtain ⟨M_stampFrom, rfl, b_M_stampFrom⟩ := q0
  have z := all2_cons gf
  clear gf
  obtain ⟨v0, fs, rfl, q0, gf⟩ := z
  obtain ⟨M_stampTimes, rfl, b_M_stampTimes⟩ := q0
  have z := all2_cons gf
  clear gf
  obtain ⟨v0, fs, rfl, q0, gf⟩ := z
  obtain ⟨M_lines, rfl, b_M_lines⟩ := q0
  have z := all2_cons gf
  clear gf
  obtain ⟨v0, fs, rfl, q0, gf⟩ := z
  obtain ⟨M_spot0, rfl, b_M_spot0⟩ := q0
  have z := all2_cons gf
  clear gf
  obtain ⟨v0, fs, rfl, q0, gf⟩ := z
  obtain ⟨M_pullAcross, rfl, b_M_pullAcross⟩ := q0
  have z := all2_cons gf
  clear gf
  obtain ⟨v0, fs, rfl, q0, gf⟩ := z
  obtain ⟨M_pullAlong, rfl, b_M_pullAlong⟩ := q0
  have z := all2_cons gf
  clear gf
  obtain ⟨v0, fs, rfl, q0, gf⟩ := z
  obtain ⟨M_stepsNow, rfl, b_M_stepsNow⟩ := q0
  have z := all2_cons gf
  clear gf
  obtain ⟨v0, fs, rfl, q0, gf⟩ := z
  obtain ⟨M_fallenNow, rfl, b_M_fallenNow⟩ := q0
  have z := all2_cons gf
  clear gf
  obtain ⟨v0, fs, rfl, q0, gf⟩ := z
  cases gT_r (τ := τ) (t := 22) (v := v0) rfl q0
  have z := all2_cons gf
  clear gf
  obtain ⟨v0, fs, rfl, q0, gf⟩ := z
  cases gT_r (τ := τ) (t := 23) (v := v0) rfl q0
  have z := all2_cons gf
  clear gf
  obtain ⟨v0, fs, rfl, q0, gf⟩ := z
  cases (q0 : v0 = .inr (some (.inl 5)))
  have z := all2_cons gf
  clear gf
  obtain ⟨v0, fs, rfl, q0, gf⟩ := z
  cases gT_r (τ := τ) (t := 24) (v := v0) rfl q0
  have z := all2_cons gf
  clear gf
  obtain ⟨v0, fs, rfl, q0, gf⟩ := z
  cases gT_r (τ := τ) (t := 25) (v := v0) rfl q0
  have z := all2_cons gf
  clear gf
  obtain ⟨v0, fs, rfl, q0, gf⟩ := z
  obtain ⟨M_isKept, rfl, e_M_isKept, b_M_isKept⟩ := gT_x (τ := τ) (t := 201) (v := v0) rfl q0
  cases fs with
  | cons _ _ => exact gf.elim
  | nil =>
    have z := all2_cons hh
    clear hh
    obtain ⟨e1, h, rfl, g1, hh⟩ := z
    rcases e1 with ⟨t1, n1, M_mintAt⟩ | ⟨ci, fs⟩
    rotate_left
    · exact g1.elim
    obtain ⟨et, en, b_M_mintAt⟩ := g1
    cases (et : t1 = 0)
    cases en
    have z := all2_cons hh
    clear hh
    obtain ⟨e1, h, rfl, g1, hh⟩ := z
    rcases e1 with ⟨t1, n1, M_mintOf⟩ | ⟨ci, fs⟩
    rotate_left
    · exact g1.elim
    obtain ⟨et, en, b_M_mintOf⟩ := g1
    cases (et : t1 = 0)
    cases en
    have z := all2_cons hh
    clear hh
    obtain ⟨e1, h, rfl, g1, hh⟩ := z
    rcases e1 with ⟨t1, n1, M_wholeOf⟩ | ⟨ci, fs⟩
    rotate_left
    · exact g1.elim
    obtain ⟨et, en, b_M_wholeOf⟩ := g1
    cases (et : t1 = 0)
    cases en
    have z := all2_cons hh
    clear hh
    obtain ⟨e1, h, rfl, g1, hh⟩ := z
    rcases e1 with ⟨t1, n1, M_tape⟩ | ⟨ci, fs⟩
    rotate_left
    · exact g1.elim
    obtain ⟨et, en, b_M_tape⟩ := g1
    cases (et : t1 = 1)
    cases en
    have z := all2_cons hh
    clear hh
    obtain ⟨e1, h, rfl, g1, hh⟩ := z
    rcases e1 with ⟨t1, n1, M_someOf⟩ | ⟨ci, fs⟩
    rotate_left
    · exact g1.elim
    obtain ⟨et, en, b_M_someOf⟩ := g1
    cases (et : t1 = 0)
    cases en
    cases h with
    | cons _ _ => exact hh.elim
    | nil =>
      rw [← e_M_taped] at hP
      exact c_nfalseOnesR hP

def nd_ship (a b s : Int32) : Prop := (1 ≤ a ∧ a ≤ 10) ∧ (0 ≤ b ∧ b ≤ 1) ∧ a ≤ s
set_option maxRecDepth 100000 in
theorem c_nshipC {l : Launch} {HS_republic HS_now HS_kept HS_trial HS_clerk HS_crew HS_sheetReader HS_postReader HS_lawReader HS_seen HS_rules HS_spareRules : List (Option Nat)} {HS_wasKept Tape_size Rid_bits Rid_grains : Int32} {Tape_bytes Rid_fewest Rid_got : Nat → Int32}  {a b : Int32} (hN : ¬ nd_ship a b Tape_size) : MetP l 4 yX11_ship cX11_ship 3 (some .int) 0 0 [.inr (some (.inl 0)), .inl a, .inl b] [.inr (10, [.inr (some (.inl 1)), .inr (some (.inr HS_republic)), .inr (some (.inr HS_now)), .inr (some (.inr HS_kept)), .inr (some (.inr HS_trial)), .inr (some (.inr HS_clerk)), .inr (some (.inr HS_crew)), .inr (some (.inl 3)), .inr (some (.inr HS_sheetReader)), .inr (some (.inr HS_postReader)), .inr (some (.inr HS_lawReader)), .inr (some (.inr HS_seen)), .inr (some (.inr HS_rules)), .inr (some (.inr HS_spareRules)), .inl HS_wasKept]), .inr (9, [.inr (some (.inl 2)), .inl Tape_size]), .inl (0, 260, Tape_bytes), .inr (7, [.inr (some (.inl 1)), .inr (some (.inl 4)), .inr (some (.inl 5)), .inl Rid_bits, .inl Rid_grains]), .inl (0, 601, Rid_fewest), .inl (0, 6, Rid_got)] (fun r h' => r = some (.inl (-1)) ∧ h' = [.inr (10, [.inr (some (.inl 1)), .inr (some (.inr HS_republic)), .inr (some (.inr HS_now)), .inr (some (.inr HS_kept)), .inr (some (.inr HS_trial)), .inr (some (.inr HS_clerk)), .inr (some (.inr HS_crew)), .inr (some (.inl 3)), .inr (some (.inr HS_sheetReader)), .inr (some (.inr HS_postReader)), .inr (some (.inr HS_lawReader)), .inr (some (.inr HS_seen)), .inr (some (.inr HS_rules)), .inr (some (.inr HS_spareRules)), .inl HS_wasKept]), .inr (9, [.inr (some (.inl 2)), .inl Tape_size]), .inl (0, 260, Tape_bytes), .inr (7, [.inr (some (.inl 1)), .inr (some (.inl 4)), .inr (some (.inl 5)), .inl Rid_bits, .inl Rid_grains]), .inl (0, 601, Rid_fewest), .inl (0, 6, Rid_got)]) := by
  refine m_X11_ship  (Nat.le_of_ble_eq_true rfl) ?_ 
  refine call0 (c_within) rfl rfl ?_
  rintro r h' ⟨rfl, rfl⟩
  refine br_b (fun _ => ⟨rfl, rfl⟩) (fun g1 => ?_)
  refine call0 (c_canGive) rfl rfl ?_
  rintro r h' ⟨rfl, rfl⟩
  exact br_b (fun _ => ⟨rfl, rfl⟩) (fun g => absurd ⟨g.1, g1, g.2⟩ hN)
def HI_shipC : List AC := hc_69ffd711c1
set_option maxRecDepth 100000 in
theorem i_nshipC {l : Launch} {a b : Int32} : conOkI (MetP l 4 yX11_ship cX11_ship 3 (some .int) 0 0) [a, b] (-1) HI_shipC (fun τ => ¬ nd_ship a b (decA (τ 202) 0)) := by
  intro τ hΦ hP h hh
  have hP : ¬ nd_ship a b (decA (τ 202) 0) := hP
  have z := all2_cons hh
  clear hh
  obtain ⟨e0, h, rfl, g0, hh⟩ := z
  rcases e0 with ⟨t0, n0, f0⟩ | ⟨ci, fs⟩
  · exact g0.elim
  obtain ⟨rfl, gf⟩ := g0
  have z := all2_cons gf
  clear gf
  obtain ⟨v0, fs, rfl, q0, gf⟩ := z
  cases (q0 : v0 = .inr (some (.inl 1)))
  have z := all2_cons gf
  clear gf
  obtain ⟨v0, fs, rfl, q0, gf⟩ := z
  cases gT_r (τ := τ) (t := 0) (v := v0) rfl q0
  have z := all2_cons gf
  clear gf
  obtain ⟨v0, fs, rfl, q0, gf⟩ := z
  cases gT_r (τ := τ) (t := 1) (v := v0) rfl q0
  have z := all2_cons gf
  clear gf
  obtain ⟨v0, fs, rfl, q0, gf⟩ := z
  cases gT_r (τ := τ) (t := 2) (v := v0) rfl q0
  have z := all2_cons gf
  clear gf
  obtain ⟨v0, fs, rfl, q0, gf⟩ := z
  cases gT_r (τ := τ) (t := 3) (v := v0) rfl q0
  have z := all2_cons gf
  clear gf
  obtain ⟨v0, fs, rfl, q0, gf⟩ := z
  cases gT_r (τ := τ) (t := 4) (v := v0) rfl q0
  have z := all2_cons gf
  clear gf
  obtain ⟨v0, fs, rfl, q0, gf⟩ := z
  cases gT_r (τ := τ) (t := 5) (v := v0) rfl q0
  have z := all2_cons gf
  clear gf
  obtain ⟨v0, fs, rfl, q0, gf⟩ := z
  cases (q0 : v0 = .inr (some (.inl 3)))
  have z := all2_cons gf
  clear gf
  obtain ⟨v0, fs, rfl, q0, gf⟩ := z
  cases gT_r (τ := τ) (t := 6) (v := v0) rfl q0
  have z := all2_cons gf
  clear gf
  obtain ⟨v0, fs, rfl, q0, gf⟩ := z
  cases gT_r (τ := τ) (t := 7) (v := v0) rfl q0
  have z := all2_cons gf
  clear gf
  obtain ⟨v0, fs, rfl, q0, gf⟩ := z
  cases gT_r (τ := τ) (t := 8) (v := v0) rfl q0
  have z := all2_cons gf
  clear gf
  obtain ⟨v0, fs, rfl, q0, gf⟩ := z
  cases gT_r (τ := τ) (t := 9) (v := v0) rfl q0
  have z := all2_cons gf
  clear gf
  obtain ⟨v0, fs, rfl, q0, gf⟩ := z
  cases gT_r (τ := τ) (t := 10) (v := v0) rfl q0
  have z := all2_cons gf
  clear gf
  obtain ⟨v0, fs, rfl, q0, gf⟩ := z
  cases gT_r (τ := τ) (t := 11) (v := v0) rfl q0
  have z := all2_cons gf
  clear gf
  obtain ⟨v0, fs, rfl, q0, gf⟩ := z
  obtain ⟨HS_wasKept, rfl, e_HS_wasKept, b_HS_wasKept⟩ := gT_x (τ := τ) (t := 201) (v := v0) rfl q0
  cases fs with
  | cons _ _ => exact gf.elim
  | nil =>
    have z := all2_cons hh
    clear hh
    obtain ⟨e0, h, rfl, g0, hh⟩ := z
    rcases e0 with ⟨t0, n0, f0⟩ | ⟨ci, fs⟩
    · exact g0.elim
    obtain ⟨rfl, gf⟩ := g0
    have z := all2_cons gf
    clear gf
    obtain ⟨v0, fs, rfl, q0, gf⟩ := z
    cases (q0 : v0 = .inr (some (.inl 2)))
    have z := all2_cons gf
    clear gf
    obtain ⟨v0, fs, rfl, q0, gf⟩ := z
    obtain ⟨Tape_size, rfl, e_Tape_size, b_Tape_size⟩ := gT_x (τ := τ) (t := 202) (v := v0) rfl q0
    cases fs with
    | cons _ _ => exact gf.elim
    | nil =>
      have z := all2_cons hh
      clear hh
      obtain ⟨e1, h, rfl, g1, hh⟩ := z
      rcases e1 with ⟨t1, n1, Tape_bytes⟩ | ⟨ci, fs⟩
      rotate_left
      · exact g1.elim
      obtain ⟨et, en, b_Tape_bytes⟩ := g1
      cases (et : t1 = 0)
      cases en
      have z := all2_cons hh
      clear hh
      obtain ⟨e0, h, rfl, g0, hh⟩ := z
      rcases e0 with ⟨t0, n0, f0⟩ | ⟨ci, fs⟩
      · exact g0.elim
      obtain ⟨rfl, gf⟩ := g0
      have z := all2_cons gf
      clear gf
      obtain ⟨v0, fs, rfl, q0, gf⟩ := z
      cases (q0 : v0 = .inr (some (.inl 1)))
      have z := all2_cons gf
      clear gf
      obtain ⟨v0, fs, rfl, q0, gf⟩ := z
      cases (q0 : v0 = .inr (some (.inl 4)))
      have z := all2_cons gf
      clear gf
      obtain ⟨v0, fs, rfl, q0, gf⟩ := z
      cases (q0 : v0 = .inr (some (.inl 5)))
      have z := all2_cons gf
      clear gf
      obtain ⟨v0, fs, rfl, q0, gf⟩ := z
      obtain ⟨Rid_bits, rfl, b_Rid_bits⟩ := q0
      have z := all2_cons gf
      clear gf
      obtain ⟨v0, fs, rfl, q0, gf⟩ := z
      obtain ⟨Rid_grains, rfl, b_Rid_grains⟩ := q0
      cases fs with
      | cons _ _ => exact gf.elim
      | nil =>
        have z := all2_cons hh
        clear hh
        obtain ⟨e1, h, rfl, g1, hh⟩ := z
        rcases e1 with ⟨t1, n1, Rid_fewest⟩ | ⟨ci, fs⟩
        rotate_left
        · exact g1.elim
        obtain ⟨et, en, b_Rid_fewest⟩ := g1
        cases (et : t1 = 0)
        cases en
        have z := all2_cons hh
        clear hh
        obtain ⟨e1, h, rfl, g1, hh⟩ := z
        rcases e1 with ⟨t1, n1, Rid_got⟩ | ⟨ci, fs⟩
        rotate_left
        · exact g1.elim
        obtain ⟨et, en, b_Rid_got⟩ := g1
        cases (et : t1 = 0)
        cases en
        cases h with
        | cons _ _ => exact hh.elim
        | nil =>
          rw [← e_Tape_size] at hP
          exact c_nshipC hP

set_option maxRecDepth 100000 in
theorem c_nshipR {l : Launch} {M_now M_aside M_kept M_mintAt M_mintOf M_wholeOf M_isWall M_wasWall M_said M_waitsAt M_saidLetter M_saidFrom M_saidHalf M_saidTo M_codes M_clauseOf M_codeFrom M_codeHalf M_codeTo M_stack M_facts M_newStamps M_roundFrom M_roundAt M_roundTimes M_usesNow M_wasAt M_someOf M_fewestFor M_getsOf : List (Option Nat)} {M_stampMany M_taped M_place0 M_length0 M_fault M_number0 M_open M_codeMany M_waiting M_saidMany M_clauses M_newMany M_rounds M_stampFrom M_stampTimes M_lines M_spot0 M_pullAcross M_pullAlong M_stepsNow M_fallenNow M_isKept : Int32} {M_tape : Nat → Int32}  {a b : Int32} (hN : ¬ nd_ship a b M_taped) : MetP l 2 yX12_ship cX12_ship 8 (some .int) 0 0 [.inr (some (.inl 0)), .inl a, .inl b] [.inr (11, [.inr (some (.inr M_now)), .inr (some (.inr M_aside)), .inr (some (.inr M_kept)), .inr (some (.inr M_mintAt)), .inr (some (.inr M_mintOf)), .inr (some (.inr M_wholeOf)), .inr (some (.inr M_isWall)), .inr (some (.inr M_wasWall)), .inl M_stampMany, .inr (some (.inl 1)), .inl M_taped, .inl M_place0, .inl M_length0, .inl M_fault, .inl M_number0, .inl M_open, .inl M_codeMany, .inl M_waiting, .inl M_saidMany, .inl M_clauses, .inr (some (.inr M_said)), .inr (some (.inr M_waitsAt)), .inr (some (.inr M_saidLetter)), .inr (some (.inr M_saidFrom)), .inr (some (.inr M_saidHalf)), .inr (some (.inr M_saidTo)), .inr (some (.inr M_codes)), .inr (some (.inr M_clauseOf)), .inr (some (.inr M_codeFrom)), .inr (some (.inr M_codeHalf)), .inr (some (.inr M_codeTo)), .inr (some (.inr M_stack)), .inr (some (.inr M_facts)), .inr (some (.inr M_newStamps)), .inr (some (.inr M_roundFrom)), .inr (some (.inr M_roundAt)), .inr (some (.inr M_roundTimes)), .inl M_newMany, .inl M_rounds, .inl M_stampFrom, .inl M_stampTimes, .inl M_lines, .inl M_spot0, .inl M_pullAcross, .inl M_pullAlong, .inl M_stepsNow, .inl M_fallenNow, .inr (some (.inr M_usesNow)), .inr (some (.inr M_wasAt)), .inr (some (.inr M_someOf)), .inr (some (.inr M_fewestFor)), .inr (some (.inr M_getsOf)), .inl M_isKept]), .inl (1, 260, M_tape)] (fun r h' => r = some (.inl (-1)) ∧ h' = [.inr (11, [.inr (some (.inr M_now)), .inr (some (.inr M_aside)), .inr (some (.inr M_kept)), .inr (some (.inr M_mintAt)), .inr (some (.inr M_mintOf)), .inr (some (.inr M_wholeOf)), .inr (some (.inr M_isWall)), .inr (some (.inr M_wasWall)), .inl M_stampMany, .inr (some (.inl 1)), .inl M_taped, .inl M_place0, .inl M_length0, .inl M_fault, .inl M_number0, .inl M_open, .inl M_codeMany, .inl M_waiting, .inl M_saidMany, .inl M_clauses, .inr (some (.inr M_said)), .inr (some (.inr M_waitsAt)), .inr (some (.inr M_saidLetter)), .inr (some (.inr M_saidFrom)), .inr (some (.inr M_saidHalf)), .inr (some (.inr M_saidTo)), .inr (some (.inr M_codes)), .inr (some (.inr M_clauseOf)), .inr (some (.inr M_codeFrom)), .inr (some (.inr M_codeHalf)), .inr (some (.inr M_codeTo)), .inr (some (.inr M_stack)), .inr (some (.inr M_facts)), .inr (some (.inr M_newStamps)), .inr (some (.inr M_roundFrom)), .inr (some (.inr M_roundAt)), .inr (some (.inr M_roundTimes)), .inl M_newMany, .inl M_rounds, .inl M_stampFrom, .inl M_stampTimes, .inl M_lines, .inl M_spot0, .inl M_pullAcross, .inl M_pullAlong, .inl M_stepsNow, .inl M_fallenNow, .inr (some (.inr M_usesNow)), .inr (some (.inr M_wasAt)), .inr (some (.inr M_someOf)), .inr (some (.inr M_fewestFor)), .inr (some (.inr M_getsOf)), .inl M_isKept]), .inl (1, 260, M_tape)]) := by
  refine m_X12_ship (fun _ _ _ _ => False) (Nat.le_of_ble_eq_true rfl) ?_ (fun _ _ _ _ z => z.elim)
  refine call0 (c_in) rfl rfl ?_
  rintro r h' ⟨rfl, rfl⟩
  refine br_b (fun _ => ⟨rfl, rfl⟩) (fun g1 => ?_)
  refine call0 (c_in) rfl rfl ?_
  rintro r h' ⟨rfl, rfl⟩
  refine br_b (fun _ => ⟨rfl, rfl⟩) (fun g2 => ?_)
  exact And.intro (fun g => absurd ⟨g1, g2, g⟩ hN) (fun _ => ⟨rfl, rfl⟩)
def HI_shipR : List AC := hc_cef0a61c82
set_option maxRecDepth 100000 in
theorem i_nshipR {l : Launch} {a b : Int32} : conOkI (MetP l 2 yX12_ship cX12_ship 8 (some .int) 0 0) [a, b] (-1) HI_shipR (fun τ => ¬ nd_ship a b (decA (τ 202) 0)) := by
  intro τ hΦ hP h hh
  have hP : ¬ nd_ship a b (decA (τ 202) 0) := hP
  have z := all2_cons hh
  clear hh
  obtain ⟨e0, h, rfl, g0, hh⟩ := z
  rcases e0 with ⟨t0, n0, f0⟩ | ⟨ci, fs⟩
  · exact g0.elim
  obtain ⟨rfl, gf⟩ := g0
  have z := all2_cons gf
  clear gf
  obtain ⟨v0, fs, rfl, q0, gf⟩ := z
  cases gT_r (τ := τ) (t := 0) (v := v0) rfl q0
  have z := all2_cons gf
  clear gf
  obtain ⟨v0, fs, rfl, q0, gf⟩ := z
  cases gT_r (τ := τ) (t := 1) (v := v0) rfl q0
  have z := all2_cons gf
  clear gf
  obtain ⟨v0, fs, rfl, q0, gf⟩ := z
  cases gT_r (τ := τ) (t := 2) (v := v0) rfl q0
  have z := all2_cons gf
  clear gf
  obtain ⟨v0, fs, rfl, q0, gf⟩ := z
  cases gT_r (τ := τ) (t := 3) (v := v0) rfl q0
  have z := all2_cons gf
  clear gf
  obtain ⟨v0, fs, rfl, q0, gf⟩ := z
  cases gT_r (τ := τ) (t := 4) (v := v0) rfl q0
  have z := all2_cons gf
  clear gf
  obtain ⟨v0, fs, rfl, q0, gf⟩ := z
  cases gT_r (τ := τ) (t := 5) (v := v0) rfl q0
  have z := all2_cons gf
  clear gf
  obtain ⟨v0, fs, rfl, q0, gf⟩ := z
  cases gT_r (τ := τ) (t := 6) (v := v0) rfl q0
  have z := all2_cons gf
  clear gf
  obtain ⟨v0, fs, rfl, q0, gf⟩ := z
  cases gT_r (τ := τ) (t := 7) (v := v0) rfl q0
  have z := all2_cons gf
  clear gf
  obtain ⟨v0, fs, rfl, q0, gf⟩ := z
  obtain ⟨M_stampMany, rfl, e_M_stampMany, b_M_stampMany⟩ := gT_x (τ := τ) (t := 205) (v := v0) rfl q0
  have z := all2_cons gf
  clear gf
  obtain ⟨v0, fs, rfl, q0, gf⟩ := z
  cases (q0 : v0 = .inr (some (.inl 1)))
  have z := all2_cons gf
  clear gf
  obtain ⟨v0, fs, rfl, q0, gf⟩ := z
  obtain ⟨M_taped, rfl, e_M_taped, b_M_taped⟩ := gT_x (τ := τ) (t := 202) (v := v0) rfl q0
  have z := all2_cons gf
  clear gf
  obtain ⟨v0, fs, rfl, q0, gf⟩ := z
  obtain ⟨M_place0, rfl, b_M_place0⟩ := q0
  have z := all2_cons gf
  clear gf
  obtain ⟨v0, fs, rfl, q0, gf⟩ := z
  obtain ⟨M_length0, rfl, b_M_length0⟩ := q0
  have z := all2_cons gf
  clear gf
  obtain ⟨v0, fs, rfl, q0, gf⟩ := z
  obtain ⟨M_fault, rfl, b_M_fault⟩ := q0
  have z := all2_cons gf
  clear gf
  obtain ⟨v0, fs, rfl, q0, gf⟩ := z
  obtain ⟨M_number0, rfl, b_M_number0⟩ := q0
  have z := all2_cons gf
  clear gf
  obtain ⟨v0, fs, rfl, q0, gf⟩ := z
  obtain ⟨M_open, rfl, b_M_open⟩ := q0
  have z := all2_cons gf
  clear gf
  obtain ⟨v0, fs, rfl, q0, gf⟩ := z
  obtain ⟨M_codeMany, rfl, b_M_codeMany⟩ := q0
  have z := all2_cons gf
  clear gf
  obtain ⟨v0, fs, rfl, q0, gf⟩ := z
  obtain ⟨M_waiting, rfl, b_M_waiting⟩ := q0
  have z := all2_cons gf
  clear gf
  obtain ⟨v0, fs, rfl, q0, gf⟩ := z
  obtain ⟨M_saidMany, rfl, b_M_saidMany⟩ := q0
  have z := all2_cons gf
  clear gf
  obtain ⟨v0, fs, rfl, q0, gf⟩ := z
  obtain ⟨M_clauses, rfl, e_M_clauses, b_M_clauses⟩ := gT_x (τ := τ) (t := 200) (v := v0) rfl q0
  have z := all2_cons gf
  clear gf
  obtain ⟨v0, fs, rfl, q0, gf⟩ := z
  cases gT_r (τ := τ) (t := 8) (v := v0) rfl q0
  have z := all2_cons gf
  clear gf
  obtain ⟨v0, fs, rfl, q0, gf⟩ := z
  cases gT_r (τ := τ) (t := 9) (v := v0) rfl q0
  have z := all2_cons gf
  clear gf
  obtain ⟨v0, fs, rfl, q0, gf⟩ := z
  cases gT_r (τ := τ) (t := 10) (v := v0) rfl q0
  have z := all2_cons gf
  clear gf
  obtain ⟨v0, fs, rfl, q0, gf⟩ := z
  cases gT_r (τ := τ) (t := 11) (v := v0) rfl q0
  have z := all2_cons gf
  clear gf
  obtain ⟨v0, fs, rfl, q0, gf⟩ := z
  cases gT_r (τ := τ) (t := 12) (v := v0) rfl q0
  have z := all2_cons gf
  clear gf
  obtain ⟨v0, fs, rfl, q0, gf⟩ := z
  cases gT_r (τ := τ) (t := 13) (v := v0) rfl q0
  have z := all2_cons gf
  clear gf
  obtain ⟨v0, fs, rfl, q0, gf⟩ := z
  cases gT_r (τ := τ) (t := 14) (v := v0) rfl q0
  have z := all2_cons gf
  clear gf
  obtain ⟨v0, fs, rfl, q0, gf⟩ := z
  cases gT_r (τ := τ) (t := 15) (v := v0) rfl q0
  have z := all2_cons gf
  clear gf
  obtain ⟨v0, fs, rfl, q0, gf⟩ := z
  cases gT_r (τ := τ) (t := 16) (v := v0) rfl q0
  have z := all2_cons gf
  clear gf
  obtain ⟨v0, fs, rfl, q0, gf⟩ := z
  cases gT_r (τ := τ) (t := 17) (v := v0) rfl q0
  have z := all2_cons gf
  clear gf
  obtain ⟨v0, fs, rfl, q0, gf⟩ := z
  cases gT_r (τ := τ) (t := 18) (v := v0) rfl q0
  have z := all2_cons gf
  clear gf
  obtain ⟨v0, fs, rfl, q0, gf⟩ := z
  cases gT_r (τ := τ) (t := 19) (v := v0) rfl q0
  have z := all2_cons gf
  clear gf
  obtain ⟨v0, fs, rfl, q0, gf⟩ := z
  cases gT_r (τ := τ) (t := 20) (v := v0) rfl q0
  have z := all2_cons gf
  clear gf
  obtain ⟨v0, fs, rfl, q0, gf⟩ := z
  cases gT_r (τ := τ) (t := 21) (v := v0) rfl q0
  have z := all2_cons gf
  clear gf
  obtain ⟨v0, fs, rfl, q0, gf⟩ := z
  cases gT_r (τ := τ) (t := 22) (v := v0) rfl q0
  have z := all2_cons gf
  clear gf
  obtain ⟨v0, fs, rfl, q0, gf⟩ := z
  cases gT_r (τ := τ) (t := 23) (v := v0) rfl q0
  have z := all2_cons gf
  clear gf
  obtain ⟨v0, fs, rfl, q0, gf⟩ := z
  cases gT_r (τ := τ) (t := 24) (v := v0) rfl q0
  have z := all2_cons gf
  clear gf
  obtain ⟨v0, fs, rfl, q0, gf⟩ := z
  obtain ⟨M_newMany, rfl, b_M_newMany⟩ := q0
  have z := all2_cons gf
  clear gf
  obtain ⟨v0, fs, rfl, q0, gf⟩ := z
  obtain ⟨M_rounds, rfl, b_M_rounds⟩ := q0
  have z := all2_cons gf
  clear gf
  obtain ⟨v0, fs, rfl, q0, gf⟩ := z
  obtain ⟨M_stampFrom, rfl, b_M_stampFrom⟩ := q0
  have z := all2_cons gf
  clear gf
  obtain ⟨v0, fs, rfl, q0, gf⟩ := z
  obtain ⟨M_stampTimes, rfl, b_M_stampTimes⟩ := q0
  have z := all2_cons gf
  clear gf
  obtain ⟨v0, fs, rfl, q0, gf⟩ := z
  obtain ⟨M_lines, rfl, b_M_lines⟩ := q0
  have z := all2_cons gf
  clear gf
  obtain ⟨v0, fs, rfl, q0, gf⟩ := z
  obtain ⟨M_spot0, rfl, b_M_spot0⟩ := q0
  have z := all2_cons gf
  clear gf
  obtain ⟨v0, fs, rfl, q0, gf⟩ := z
  obtain ⟨M_pullAcross, rfl, b_M_pullAcross⟩ := q0
  have z := all2_cons gf
  clear gf
  obtain ⟨v0, fs, rfl, q0, gf⟩ := z
  obtain ⟨M_pullAlong, rfl, b_M_pullAlong⟩ := q0
  have z := all2_cons gf
  clear gf
  obtain ⟨v0, fs, rfl, q0, gf⟩ := z
  obtain ⟨M_stepsNow, rfl, b_M_stepsNow⟩ := q0
  have z := all2_cons gf
  clear gf
  obtain ⟨v0, fs, rfl, q0, gf⟩ := z
  obtain ⟨M_fallenNow, rfl, b_M_fallenNow⟩ := q0
  have z := all2_cons gf
  clear gf
  obtain ⟨v0, fs, rfl, q0, gf⟩ := z
  cases gT_r (τ := τ) (t := 25) (v := v0) rfl q0
  have z := all2_cons gf
  clear gf
  obtain ⟨v0, fs, rfl, q0, gf⟩ := z
  cases gT_r (τ := τ) (t := 26) (v := v0) rfl q0
  have z := all2_cons gf
  clear gf
  obtain ⟨v0, fs, rfl, q0, gf⟩ := z
  cases gT_r (τ := τ) (t := 27) (v := v0) rfl q0
  have z := all2_cons gf
  clear gf
  obtain ⟨v0, fs, rfl, q0, gf⟩ := z
  cases gT_r (τ := τ) (t := 28) (v := v0) rfl q0
  have z := all2_cons gf
  clear gf
  obtain ⟨v0, fs, rfl, q0, gf⟩ := z
  cases gT_r (τ := τ) (t := 29) (v := v0) rfl q0
  have z := all2_cons gf
  clear gf
  obtain ⟨v0, fs, rfl, q0, gf⟩ := z
  obtain ⟨M_isKept, rfl, e_M_isKept, b_M_isKept⟩ := gT_x (τ := τ) (t := 201) (v := v0) rfl q0
  cases fs with
  | cons _ _ => exact gf.elim
  | nil =>
    have z := all2_cons hh
    clear hh
    obtain ⟨e1, h, rfl, g1, hh⟩ := z
    rcases e1 with ⟨t1, n1, M_tape⟩ | ⟨ci, fs⟩
    rotate_left
    · exact g1.elim
    obtain ⟨et, en, b_M_tape⟩ := g1
    cases (et : t1 = 1)
    cases en
    cases h with
    | cons _ _ => exact hh.elim
    | nil =>
      rw [← e_M_taped] at hP
      exact c_nshipR hP

def nd_mule (a b c s : Int32) : Prop := (1 ≤ a ∧ a ≤ 12) ∧ (0 ≤ b ∧ b ≤ 3060) ∧ (0 ≤ c ∧ c ≤ 2) ∧ a ≤ s
set_option maxRecDepth 100000 in
theorem c_nmuleC {l : Launch} {HS_republic HS_now HS_kept HS_trial HS_clerk HS_crew HS_sheetReader HS_postReader HS_lawReader HS_seen HS_rules HS_spareRules : List (Option Nat)} {HS_wasKept Tape_size Rid_bits Rid_grains : Int32} {Tape_bytes Rid_fewest Rid_got : Nat → Int32}  {a b c : Int32} (hN : ¬ nd_mule a b c Tape_size) : MetP l 4 yX11_mule cX11_mule 5 (some .int) 0 0 [.inr (some (.inl 0)), .inl a, .inl b, .inl c] [.inr (10, [.inr (some (.inl 1)), .inr (some (.inr HS_republic)), .inr (some (.inr HS_now)), .inr (some (.inr HS_kept)), .inr (some (.inr HS_trial)), .inr (some (.inr HS_clerk)), .inr (some (.inr HS_crew)), .inr (some (.inl 3)), .inr (some (.inr HS_sheetReader)), .inr (some (.inr HS_postReader)), .inr (some (.inr HS_lawReader)), .inr (some (.inr HS_seen)), .inr (some (.inr HS_rules)), .inr (some (.inr HS_spareRules)), .inl HS_wasKept]), .inr (9, [.inr (some (.inl 2)), .inl Tape_size]), .inl (0, 260, Tape_bytes), .inr (7, [.inr (some (.inl 1)), .inr (some (.inl 4)), .inr (some (.inl 5)), .inl Rid_bits, .inl Rid_grains]), .inl (0, 601, Rid_fewest), .inl (0, 6, Rid_got)] (fun r h' => r = some (.inl (-1)) ∧ h' = [.inr (10, [.inr (some (.inl 1)), .inr (some (.inr HS_republic)), .inr (some (.inr HS_now)), .inr (some (.inr HS_kept)), .inr (some (.inr HS_trial)), .inr (some (.inr HS_clerk)), .inr (some (.inr HS_crew)), .inr (some (.inl 3)), .inr (some (.inr HS_sheetReader)), .inr (some (.inr HS_postReader)), .inr (some (.inr HS_lawReader)), .inr (some (.inr HS_seen)), .inr (some (.inr HS_rules)), .inr (some (.inr HS_spareRules)), .inl HS_wasKept]), .inr (9, [.inr (some (.inl 2)), .inl Tape_size]), .inl (0, 260, Tape_bytes), .inr (7, [.inr (some (.inl 1)), .inr (some (.inl 4)), .inr (some (.inl 5)), .inl Rid_bits, .inl Rid_grains]), .inl (0, 601, Rid_fewest), .inl (0, 6, Rid_got)]) := by
  refine m_X11_mule  (Nat.le_of_ble_eq_true rfl) ?_ 
  refine call0 (c_within) rfl rfl ?_
  rintro r h' ⟨rfl, rfl⟩
  refine br_b (fun _ => ⟨rfl, rfl⟩) (fun g1 => ?_)
  refine call0 (c_within) rfl rfl ?_
  rintro r h' ⟨rfl, rfl⟩
  refine br_b (fun _ => ⟨rfl, rfl⟩) (fun g2 => ?_)
  refine call0 (c_canGive) rfl rfl ?_
  rintro r h' ⟨rfl, rfl⟩
  exact br_b (fun _ => ⟨rfl, rfl⟩) (fun g => absurd ⟨g.1, g2, g1, g.2⟩ hN)
def HI_muleC : List AC := hc_69ffd711c1
set_option maxRecDepth 100000 in
theorem i_nmuleC {l : Launch} {a b c : Int32} : conOkI (MetP l 4 yX11_mule cX11_mule 5 (some .int) 0 0) [a, b, c] (-1) HI_muleC (fun τ => ¬ nd_mule a b c (decA (τ 202) 0)) := by
  intro τ hΦ hP h hh
  have hP : ¬ nd_mule a b c (decA (τ 202) 0) := hP
  have z := all2_cons hh
  clear hh
  obtain ⟨e0, h, rfl, g0, hh⟩ := z
  rcases e0 with ⟨t0, n0, f0⟩ | ⟨ci, fs⟩
  · exact g0.elim
  obtain ⟨rfl, gf⟩ := g0
  have z := all2_cons gf
  clear gf
  obtain ⟨v0, fs, rfl, q0, gf⟩ := z
  cases (q0 : v0 = .inr (some (.inl 1)))
  have z := all2_cons gf
  clear gf
  obtain ⟨v0, fs, rfl, q0, gf⟩ := z
  cases gT_r (τ := τ) (t := 0) (v := v0) rfl q0
  have z := all2_cons gf
  clear gf
  obtain ⟨v0, fs, rfl, q0, gf⟩ := z
  cases gT_r (τ := τ) (t := 1) (v := v0) rfl q0
  have z := all2_cons gf
  clear gf
  obtain ⟨v0, fs, rfl, q0, gf⟩ := z
  cases gT_r (τ := τ) (t := 2) (v := v0) rfl q0
  have z := all2_cons gf
  clear gf
  obtain ⟨v0, fs, rfl, q0, gf⟩ := z
  cases gT_r (τ := τ) (t := 3) (v := v0) rfl q0
  have z := all2_cons gf
  clear gf
  obtain ⟨v0, fs, rfl, q0, gf⟩ := z
  cases gT_r (τ := τ) (t := 4) (v := v0) rfl q0
  have z := all2_cons gf
  clear gf
  obtain ⟨v0, fs, rfl, q0, gf⟩ := z
  cases gT_r (τ := τ) (t := 5) (v := v0) rfl q0
  have z := all2_cons gf
  clear gf
  obtain ⟨v0, fs, rfl, q0, gf⟩ := z
  cases (q0 : v0 = .inr (some (.inl 3)))
  have z := all2_cons gf
  clear gf
  obtain ⟨v0, fs, rfl, q0, gf⟩ := z
  cases gT_r (τ := τ) (t := 6) (v := v0) rfl q0
  have z := all2_cons gf
  clear gf
  obtain ⟨v0, fs, rfl, q0, gf⟩ := z
  cases gT_r (τ := τ) (t := 7) (v := v0) rfl q0
  have z := all2_cons gf
  clear gf
  obtain ⟨v0, fs, rfl, q0, gf⟩ := z
  cases gT_r (τ := τ) (t := 8) (v := v0) rfl q0
  have z := all2_cons gf
  clear gf
  obtain ⟨v0, fs, rfl, q0, gf⟩ := z
  cases gT_r (τ := τ) (t := 9) (v := v0) rfl q0
  have z := all2_cons gf
  clear gf
  obtain ⟨v0, fs, rfl, q0, gf⟩ := z
  cases gT_r (τ := τ) (t := 10) (v := v0) rfl q0
  have z := all2_cons gf
  clear gf
  obtain ⟨v0, fs, rfl, q0, gf⟩ := z
  cases gT_r (τ := τ) (t := 11) (v := v0) rfl q0
  have z := all2_cons gf
  clear gf
  obtain ⟨v0, fs, rfl, q0, gf⟩ := z
  obtain ⟨HS_wasKept, rfl, e_HS_wasKept, b_HS_wasKept⟩ := gT_x (τ := τ) (t := 201) (v := v0) rfl q0
  cases fs with
  | cons _ _ => exact gf.elim
  | nil =>
    have z := all2_cons hh
    clear hh
    obtain ⟨e0, h, rfl, g0, hh⟩ := z
    rcases e0 with ⟨t0, n0, f0⟩ | ⟨ci, fs⟩
    · exact g0.elim
    obtain ⟨rfl, gf⟩ := g0
    have z := all2_cons gf
    clear gf
    obtain ⟨v0, fs, rfl, q0, gf⟩ := z
    cases (q0 : v0 = .inr (some (.inl 2)))
    have z := all2_cons gf
    clear gf
    obtain ⟨v0, fs, rfl, q0, gf⟩ := z
    obtain ⟨Tape_size, rfl, e_Tape_size, b_Tape_size⟩ := gT_x (τ := τ) (t := 202) (v := v0) rfl q0
    cases fs with
    | cons _ _ => exact gf.elim
    | nil =>
      have z := all2_cons hh
      clear hh
      obtain ⟨e1, h, rfl, g1, hh⟩ := z
      rcases e1 with ⟨t1, n1, Tape_bytes⟩ | ⟨ci, fs⟩
      rotate_left
      · exact g1.elim
      obtain ⟨et, en, b_Tape_bytes⟩ := g1
      cases (et : t1 = 0)
      cases en
      have z := all2_cons hh
      clear hh
      obtain ⟨e0, h, rfl, g0, hh⟩ := z
      rcases e0 with ⟨t0, n0, f0⟩ | ⟨ci, fs⟩
      · exact g0.elim
      obtain ⟨rfl, gf⟩ := g0
      have z := all2_cons gf
      clear gf
      obtain ⟨v0, fs, rfl, q0, gf⟩ := z
      cases (q0 : v0 = .inr (some (.inl 1)))
      have z := all2_cons gf
      clear gf
      obtain ⟨v0, fs, rfl, q0, gf⟩ := z
      cases (q0 : v0 = .inr (some (.inl 4)))
      have z := all2_cons gf
      clear gf
      obtain ⟨v0, fs, rfl, q0, gf⟩ := z
      cases (q0 : v0 = .inr (some (.inl 5)))
      have z := all2_cons gf
      clear gf
      obtain ⟨v0, fs, rfl, q0, gf⟩ := z
      obtain ⟨Rid_bits, rfl, b_Rid_bits⟩ := q0
      have z := all2_cons gf
      clear gf
      obtain ⟨v0, fs, rfl, q0, gf⟩ := z
      obtain ⟨Rid_grains, rfl, b_Rid_grains⟩ := q0
      cases fs with
      | cons _ _ => exact gf.elim
      | nil =>
        have z := all2_cons hh
        clear hh
        obtain ⟨e1, h, rfl, g1, hh⟩ := z
        rcases e1 with ⟨t1, n1, Rid_fewest⟩ | ⟨ci, fs⟩
        rotate_left
        · exact g1.elim
        obtain ⟨et, en, b_Rid_fewest⟩ := g1
        cases (et : t1 = 0)
        cases en
        have z := all2_cons hh
        clear hh
        obtain ⟨e1, h, rfl, g1, hh⟩ := z
        rcases e1 with ⟨t1, n1, Rid_got⟩ | ⟨ci, fs⟩
        rotate_left
        · exact g1.elim
        obtain ⟨et, en, b_Rid_got⟩ := g1
        cases (et : t1 = 0)
        cases en
        cases h with
        | cons _ _ => exact hh.elim
        | nil =>
          rw [← e_Tape_size] at hP
          exact c_nmuleC hP

set_option maxRecDepth 100000 in
theorem c_nmuleR {l : Launch} {M_now M_aside M_kept M_mintAt M_mintOf M_wholeOf M_isWall M_wasWall M_said M_waitsAt M_saidLetter M_saidFrom M_saidHalf M_saidTo M_codes M_clauseOf M_codeFrom M_codeHalf M_codeTo M_stack M_facts M_newStamps M_roundFrom M_roundAt M_roundTimes M_usesNow M_wasAt M_someOf M_fewestFor M_getsOf : List (Option Nat)} {M_stampMany M_taped M_place0 M_length0 M_fault M_number0 M_open M_codeMany M_waiting M_saidMany M_clauses M_newMany M_rounds M_stampFrom M_stampTimes M_lines M_spot0 M_pullAcross M_pullAlong M_stepsNow M_fallenNow M_isKept : Int32} {M_tape : Nat → Int32}  {a b c : Int32} (hN : ¬ nd_mule a b c M_taped) : MetP l 2 yX12_mule cX12_mule 8 (some .int) 0 0 [.inr (some (.inl 0)), .inl a, .inl b, .inl c] [.inr (11, [.inr (some (.inr M_now)), .inr (some (.inr M_aside)), .inr (some (.inr M_kept)), .inr (some (.inr M_mintAt)), .inr (some (.inr M_mintOf)), .inr (some (.inr M_wholeOf)), .inr (some (.inr M_isWall)), .inr (some (.inr M_wasWall)), .inl M_stampMany, .inr (some (.inl 1)), .inl M_taped, .inl M_place0, .inl M_length0, .inl M_fault, .inl M_number0, .inl M_open, .inl M_codeMany, .inl M_waiting, .inl M_saidMany, .inl M_clauses, .inr (some (.inr M_said)), .inr (some (.inr M_waitsAt)), .inr (some (.inr M_saidLetter)), .inr (some (.inr M_saidFrom)), .inr (some (.inr M_saidHalf)), .inr (some (.inr M_saidTo)), .inr (some (.inr M_codes)), .inr (some (.inr M_clauseOf)), .inr (some (.inr M_codeFrom)), .inr (some (.inr M_codeHalf)), .inr (some (.inr M_codeTo)), .inr (some (.inr M_stack)), .inr (some (.inr M_facts)), .inr (some (.inr M_newStamps)), .inr (some (.inr M_roundFrom)), .inr (some (.inr M_roundAt)), .inr (some (.inr M_roundTimes)), .inl M_newMany, .inl M_rounds, .inl M_stampFrom, .inl M_stampTimes, .inl M_lines, .inl M_spot0, .inl M_pullAcross, .inl M_pullAlong, .inl M_stepsNow, .inl M_fallenNow, .inr (some (.inr M_usesNow)), .inr (some (.inr M_wasAt)), .inr (some (.inr M_someOf)), .inr (some (.inr M_fewestFor)), .inr (some (.inr M_getsOf)), .inl M_isKept]), .inl (1, 260, M_tape)] (fun r h' => r = some (.inl (-1)) ∧ h' = [.inr (11, [.inr (some (.inr M_now)), .inr (some (.inr M_aside)), .inr (some (.inr M_kept)), .inr (some (.inr M_mintAt)), .inr (some (.inr M_mintOf)), .inr (some (.inr M_wholeOf)), .inr (some (.inr M_isWall)), .inr (some (.inr M_wasWall)), .inl M_stampMany, .inr (some (.inl 1)), .inl M_taped, .inl M_place0, .inl M_length0, .inl M_fault, .inl M_number0, .inl M_open, .inl M_codeMany, .inl M_waiting, .inl M_saidMany, .inl M_clauses, .inr (some (.inr M_said)), .inr (some (.inr M_waitsAt)), .inr (some (.inr M_saidLetter)), .inr (some (.inr M_saidFrom)), .inr (some (.inr M_saidHalf)), .inr (some (.inr M_saidTo)), .inr (some (.inr M_codes)), .inr (some (.inr M_clauseOf)), .inr (some (.inr M_codeFrom)), .inr (some (.inr M_codeHalf)), .inr (some (.inr M_codeTo)), .inr (some (.inr M_stack)), .inr (some (.inr M_facts)), .inr (some (.inr M_newStamps)), .inr (some (.inr M_roundFrom)), .inr (some (.inr M_roundAt)), .inr (some (.inr M_roundTimes)), .inl M_newMany, .inl M_rounds, .inl M_stampFrom, .inl M_stampTimes, .inl M_lines, .inl M_spot0, .inl M_pullAcross, .inl M_pullAlong, .inl M_stepsNow, .inl M_fallenNow, .inr (some (.inr M_usesNow)), .inr (some (.inr M_wasAt)), .inr (some (.inr M_someOf)), .inr (some (.inr M_fewestFor)), .inr (some (.inr M_getsOf)), .inl M_isKept]), .inl (1, 260, M_tape)]) := by
  refine m_X12_mule (fun _ _ _ _ => False) (Nat.le_of_ble_eq_true rfl) ?_ (fun _ _ _ _ z => z.elim)
  refine call0 (c_in) rfl rfl ?_
  rintro r h' ⟨rfl, rfl⟩
  refine br_b (fun _ => ⟨rfl, rfl⟩) (fun g1 => ?_)
  refine call0 (c_in) rfl rfl ?_
  rintro r h' ⟨rfl, rfl⟩
  refine br_b (fun _ => ⟨rfl, rfl⟩) (fun g2 => ?_)
  refine call0 (c_in) rfl rfl ?_
  rintro r h' ⟨rfl, rfl⟩
  refine br_b (fun _ => ⟨rfl, rfl⟩) (fun g3 => ?_)
  exact And.intro (fun g => absurd ⟨g1, g2, g3, g⟩ hN) (fun _ => ⟨rfl, rfl⟩)
def HI_muleR : List AC := hc_cef0a61c82
set_option maxRecDepth 100000 in
theorem i_nmuleR {l : Launch} {a b c : Int32} : conOkI (MetP l 2 yX12_mule cX12_mule 8 (some .int) 0 0) [a, b, c] (-1) HI_muleR (fun τ => ¬ nd_mule a b c (decA (τ 202) 0)) := by
  intro τ hΦ hP h hh
  have hP : ¬ nd_mule a b c (decA (τ 202) 0) := hP
  have z := all2_cons hh
  clear hh
  obtain ⟨e0, h, rfl, g0, hh⟩ := z
  rcases e0 with ⟨t0, n0, f0⟩ | ⟨ci, fs⟩
  · exact g0.elim
  obtain ⟨rfl, gf⟩ := g0
  have z := all2_cons gf
  clear gf
  obtain ⟨v0, fs, rfl, q0, gf⟩ := z
  cases gT_r (τ := τ) (t := 0) (v := v0) rfl q0
  have z := all2_cons gf
  clear gf
  obtain ⟨v0, fs, rfl, q0, gf⟩ := z
  cases gT_r (τ := τ) (t := 1) (v := v0) rfl q0
  have z := all2_cons gf
  clear gf
  obtain ⟨v0, fs, rfl, q0, gf⟩ := z
  cases gT_r (τ := τ) (t := 2) (v := v0) rfl q0
  have z := all2_cons gf
  clear gf
  obtain ⟨v0, fs, rfl, q0, gf⟩ := z
  cases gT_r (τ := τ) (t := 3) (v := v0) rfl q0
  have z := all2_cons gf
  clear gf
  obtain ⟨v0, fs, rfl, q0, gf⟩ := z
  cases gT_r (τ := τ) (t := 4) (v := v0) rfl q0
  have z := all2_cons gf
  clear gf
  obtain ⟨v0, fs, rfl, q0, gf⟩ := z
  cases gT_r (τ := τ) (t := 5) (v := v0) rfl q0
  have z := all2_cons gf
  clear gf
  obtain ⟨v0, fs, rfl, q0, gf⟩ := z
  cases gT_r (τ := τ) (t := 6) (v := v0) rfl q0
  have z := all2_cons gf
  clear gf
  obtain ⟨v0, fs, rfl, q0, gf⟩ := z
  cases gT_r (τ := τ) (t := 7) (v := v0) rfl q0
  have z := all2_cons gf
  clear gf
  obtain ⟨v0, fs, rfl, q0, gf⟩ := z
  obtain ⟨M_stampMany, rfl, e_M_stampMany, b_M_stampMany⟩ := gT_x (τ := τ) (t := 205) (v := v0) rfl q0
  have z := all2_cons gf
  clear gf
  obtain ⟨v0, fs, rfl, q0, gf⟩ := z
  cases (q0 : v0 = .inr (some (.inl 1)))
  have z := all2_cons gf
  clear gf
  obtain ⟨v0, fs, rfl, q0, gf⟩ := z
  obtain ⟨M_taped, rfl, e_M_taped, b_M_taped⟩ := gT_x (τ := τ) (t := 202) (v := v0) rfl q0
  have z := all2_cons gf
  clear gf
  obtain ⟨v0, fs, rfl, q0, gf⟩ := z
  obtain ⟨M_place0, rfl, b_M_place0⟩ := q0
  have z := all2_cons gf
  clear gf
  obtain ⟨v0, fs, rfl, q0, gf⟩ := z
  obtain ⟨M_length0, rfl, b_M_length0⟩ := q0
  have z := all2_cons gf
  clear gf
  obtain ⟨v0, fs, rfl, q0, gf⟩ := z
  obtain ⟨M_fault, rfl, b_M_fault⟩ := q0
  have z := all2_cons gf
  clear gf
  obtain ⟨v0, fs, rfl, q0, gf⟩ := z
  obtain ⟨M_number0, rfl, b_M_number0⟩ := q0
  have z := all2_cons gf
  clear gf
  obtain ⟨v0, fs, rfl, q0, gf⟩ := z
  obtain ⟨M_open, rfl, b_M_open⟩ := q0
  have z := all2_cons gf
  clear gf
  obtain ⟨v0, fs, rfl, q0, gf⟩ := z
  obtain ⟨M_codeMany, rfl, b_M_codeMany⟩ := q0
  have z := all2_cons gf
  clear gf
  obtain ⟨v0, fs, rfl, q0, gf⟩ := z
  obtain ⟨M_waiting, rfl, b_M_waiting⟩ := q0
  have z := all2_cons gf
  clear gf
  obtain ⟨v0, fs, rfl, q0, gf⟩ := z
  obtain ⟨M_saidMany, rfl, b_M_saidMany⟩ := q0
  have z := all2_cons gf
  clear gf
  obtain ⟨v0, fs, rfl, q0, gf⟩ := z
  obtain ⟨M_clauses, rfl, e_M_clauses, b_M_clauses⟩ := gT_x (τ := τ) (t := 200) (v := v0) rfl q0
  have z := all2_cons gf
  clear gf
  obtain ⟨v0, fs, rfl, q0, gf⟩ := z
  cases gT_r (τ := τ) (t := 8) (v := v0) rfl q0
  have z := all2_cons gf
  clear gf
  obtain ⟨v0, fs, rfl, q0, gf⟩ := z
  cases gT_r (τ := τ) (t := 9) (v := v0) rfl q0
  have z := all2_cons gf
  clear gf
  obtain ⟨v0, fs, rfl, q0, gf⟩ := z
  cases gT_r (τ := τ) (t := 10) (v := v0) rfl q0
  have z := all2_cons gf
  clear gf
  obtain ⟨v0, fs, rfl, q0, gf⟩ := z
  cases gT_r (τ := τ) (t := 11) (v := v0) rfl q0
  have z := all2_cons gf
  clear gf
  obtain ⟨v0, fs, rfl, q0, gf⟩ := z
  cases gT_r (τ := τ) (t := 12) (v := v0) rfl q0
  have z := all2_cons gf
  clear gf
  obtain ⟨v0, fs, rfl, q0, gf⟩ := z
  cases gT_r (τ := τ) (t := 13) (v := v0) rfl q0
  have z := all2_cons gf
  clear gf
  obtain ⟨v0, fs, rfl, q0, gf⟩ := z
  cases gT_r (τ := τ) (t := 14) (v := v0) rfl q0
  have z := all2_cons gf
  clear gf
  obtain ⟨v0, fs, rfl, q0, gf⟩ := z
  cases gT_r (τ := τ) (t := 15) (v := v0) rfl q0
  have z := all2_cons gf
  clear gf
  obtain ⟨v0, fs, rfl, q0, gf⟩ := z
  cases gT_r (τ := τ) (t := 16) (v := v0) rfl q0
  have z := all2_cons gf
  clear gf
  obtain ⟨v0, fs, rfl, q0, gf⟩ := z
  cases gT_r (τ := τ) (t := 17) (v := v0) rfl q0
  have z := all2_cons gf
  clear gf
  obtain ⟨v0, fs, rfl, q0, gf⟩ := z
  cases gT_r (τ := τ) (t := 18) (v := v0) rfl q0
  have z := all2_cons gf
  clear gf
  obtain ⟨v0, fs, rfl, q0, gf⟩ := z
  cases gT_r (τ := τ) (t := 19) (v := v0) rfl q0
  have z := all2_cons gf
  clear gf
  obtain ⟨v0, fs, rfl, q0, gf⟩ := z
  cases gT_r (τ := τ) (t := 20) (v := v0) rfl q0
  have z := all2_cons gf
  clear gf
  obtain ⟨v0, fs, rfl, q0, gf⟩ := z
  cases gT_r (τ := τ) (t := 21) (v := v0) rfl q0
  have z := all2_cons gf
  clear gf
  obtain ⟨v0, fs, rfl, q0, gf⟩ := z
  cases gT_r (τ := τ) (t := 22) (v := v0) rfl q0
  have z := all2_cons gf
  clear gf
  obtain ⟨v0, fs, rfl, q0, gf⟩ := z
  cases gT_r (τ := τ) (t := 23) (v := v0) rfl q0
  have z := all2_cons gf
  clear gf
  obtain ⟨v0, fs, rfl, q0, gf⟩ := z
  cases gT_r (τ := τ) (t := 24) (v := v0) rfl q0
  have z := all2_cons gf
  clear gf
  obtain ⟨v0, fs, rfl, q0, gf⟩ := z
  obtain ⟨M_newMany, rfl, b_M_newMany⟩ := q0
  have z := all2_cons gf
  clear gf
  obtain ⟨v0, fs, rfl, q0, gf⟩ := z
  obtain ⟨M_rounds, rfl, b_M_rounds⟩ := q0
  have z := all2_cons gf
  clear gf
  obtain ⟨v0, fs, rfl, q0, gf⟩ := z
  obtain ⟨M_stampFrom, rfl, b_M_stampFrom⟩ := q0
  have z := all2_cons gf
  clear gf
  obtain ⟨v0, fs, rfl, q0, gf⟩ := z
  obtain ⟨M_stampTimes, rfl, b_M_stampTimes⟩ := q0
  have z := all2_cons gf
  clear gf
  obtain ⟨v0, fs, rfl, q0, gf⟩ := z
  obtain ⟨M_lines, rfl, b_M_lines⟩ := q0
  have z := all2_cons gf
  clear gf
  obtain ⟨v0, fs, rfl, q0, gf⟩ := z
  obtain ⟨M_spot0, rfl, b_M_spot0⟩ := q0
  have z := all2_cons gf
  clear gf
  obtain ⟨v0, fs, rfl, q0, gf⟩ := z
  obtain ⟨M_pullAcross, rfl, b_M_pullAcross⟩ := q0
  have z := all2_cons gf
  clear gf
  obtain ⟨v0, fs, rfl, q0, gf⟩ := z
  obtain ⟨M_pullAlong, rfl, b_M_pullAlong⟩ := q0
  have z := all2_cons gf
  clear gf
  obtain ⟨v0, fs, rfl, q0, gf⟩ := z
  obtain ⟨M_stepsNow, rfl, b_M_stepsNow⟩ := q0
  have z := all2_cons gf
  clear gf
  obtain ⟨v0, fs, rfl, q0, gf⟩ := z
  obtain ⟨M_fallenNow, rfl, b_M_fallenNow⟩ := q0
  have z := all2_cons gf
  clear gf
  obtain ⟨v0, fs, rfl, q0, gf⟩ := z
  cases gT_r (τ := τ) (t := 25) (v := v0) rfl q0
  have z := all2_cons gf
  clear gf
  obtain ⟨v0, fs, rfl, q0, gf⟩ := z
  cases gT_r (τ := τ) (t := 26) (v := v0) rfl q0
  have z := all2_cons gf
  clear gf
  obtain ⟨v0, fs, rfl, q0, gf⟩ := z
  cases gT_r (τ := τ) (t := 27) (v := v0) rfl q0
  have z := all2_cons gf
  clear gf
  obtain ⟨v0, fs, rfl, q0, gf⟩ := z
  cases gT_r (τ := τ) (t := 28) (v := v0) rfl q0
  have z := all2_cons gf
  clear gf
  obtain ⟨v0, fs, rfl, q0, gf⟩ := z
  cases gT_r (τ := τ) (t := 29) (v := v0) rfl q0
  have z := all2_cons gf
  clear gf
  obtain ⟨v0, fs, rfl, q0, gf⟩ := z
  obtain ⟨M_isKept, rfl, e_M_isKept, b_M_isKept⟩ := gT_x (τ := τ) (t := 201) (v := v0) rfl q0
  cases fs with
  | cons _ _ => exact gf.elim
  | nil =>
    have z := all2_cons hh
    clear hh
    obtain ⟨e1, h, rfl, g1, hh⟩ := z
    rcases e1 with ⟨t1, n1, M_tape⟩ | ⟨ci, fs⟩
    rotate_left
    · exact g1.elim
    obtain ⟨et, en, b_M_tape⟩ := g1
    cases (et : t1 = 1)
    cases en
    cases h with
    | cons _ _ => exact hh.elim
    | nil =>
      rw [← e_M_taped] at hP
      exact c_nmuleR hP

def nd_marks (a b s : Int32) : Prop := (1 ≤ a ∧ a ≤ 5) ∧ (1 ≤ b ∧ b ≤ 6) ∧ a ≤ s
set_option maxRecDepth 100000 in
theorem c_nmarksC {l : Launch} {HS_republic HS_now HS_kept HS_trial HS_clerk HS_crew HS_sheetReader HS_postReader HS_lawReader HS_seen HS_rules HS_spareRules : List (Option Nat)} {HS_wasKept Tape_size Rid_bits Rid_grains : Int32} {Tape_bytes Rid_fewest Rid_got : Nat → Int32}  {a b : Int32} (hN : ¬ nd_marks a b Tape_size) : MetP l 3 yX11_marks cX11_marks 4 (some .int) 0 0 [.inr (some (.inl 0)), .inl a, .inl b] [.inr (10, [.inr (some (.inl 1)), .inr (some (.inr HS_republic)), .inr (some (.inr HS_now)), .inr (some (.inr HS_kept)), .inr (some (.inr HS_trial)), .inr (some (.inr HS_clerk)), .inr (some (.inr HS_crew)), .inr (some (.inl 3)), .inr (some (.inr HS_sheetReader)), .inr (some (.inr HS_postReader)), .inr (some (.inr HS_lawReader)), .inr (some (.inr HS_seen)), .inr (some (.inr HS_rules)), .inr (some (.inr HS_spareRules)), .inl HS_wasKept]), .inr (9, [.inr (some (.inl 2)), .inl Tape_size]), .inl (0, 260, Tape_bytes), .inr (7, [.inr (some (.inl 1)), .inr (some (.inl 4)), .inr (some (.inl 5)), .inl Rid_bits, .inl Rid_grains]), .inl (0, 601, Rid_fewest), .inl (0, 6, Rid_got)] (fun r h' => r = some (.inl (-1)) ∧ h' = [.inr (10, [.inr (some (.inl 1)), .inr (some (.inr HS_republic)), .inr (some (.inr HS_now)), .inr (some (.inr HS_kept)), .inr (some (.inr HS_trial)), .inr (some (.inr HS_clerk)), .inr (some (.inr HS_crew)), .inr (some (.inl 3)), .inr (some (.inr HS_sheetReader)), .inr (some (.inr HS_postReader)), .inr (some (.inr HS_lawReader)), .inr (some (.inr HS_seen)), .inr (some (.inr HS_rules)), .inr (some (.inr HS_spareRules)), .inl HS_wasKept]), .inr (9, [.inr (some (.inl 2)), .inl Tape_size]), .inl (0, 260, Tape_bytes), .inr (7, [.inr (some (.inl 1)), .inr (some (.inl 4)), .inr (some (.inl 5)), .inl Rid_bits, .inl Rid_grains]), .inl (0, 601, Rid_fewest), .inl (0, 6, Rid_got)]) := by
  refine m_X11_marks  (Nat.le_of_ble_eq_true rfl) ?_ 
  refine call0 (c_within) rfl rfl ?_
  rintro r h' ⟨rfl, rfl⟩
  refine br_b (fun _ => ⟨rfl, rfl⟩) (fun g1 => ?_)
  refine call0 (c_canGive) rfl rfl ?_
  rintro r h' ⟨rfl, rfl⟩
  exact br_b (fun _ => ⟨rfl, rfl⟩) (fun g => absurd ⟨g.1, g1, g.2⟩ hN)
def HI_marksC : List AC := hc_69ffd711c1
set_option maxRecDepth 100000 in
theorem i_nmarksC {l : Launch} {a b : Int32} : conOkI (MetP l 3 yX11_marks cX11_marks 4 (some .int) 0 0) [a, b] (-1) HI_marksC (fun τ => ¬ nd_marks a b (decA (τ 202) 0)) := by
  intro τ hΦ hP h hh
  have hP : ¬ nd_marks a b (decA (τ 202) 0) := hP
  have z := all2_cons hh
  clear hh
  obtain ⟨e0, h, rfl, g0, hh⟩ := z
  rcases e0 with ⟨t0, n0, f0⟩ | ⟨ci, fs⟩
  · exact g0.elim
  obtain ⟨rfl, gf⟩ := g0
  have z := all2_cons gf
  clear gf
  obtain ⟨v0, fs, rfl, q0, gf⟩ := z
  cases (q0 : v0 = .inr (some (.inl 1)))
  have z := all2_cons gf
  clear gf
  obtain ⟨v0, fs, rfl, q0, gf⟩ := z
  cases gT_r (τ := τ) (t := 0) (v := v0) rfl q0
  have z := all2_cons gf
  clear gf
  obtain ⟨v0, fs, rfl, q0, gf⟩ := z
  cases gT_r (τ := τ) (t := 1) (v := v0) rfl q0
  have z := all2_cons gf
  clear gf
  obtain ⟨v0, fs, rfl, q0, gf⟩ := z
  cases gT_r (τ := τ) (t := 2) (v := v0) rfl q0
  have z := all2_cons gf
  clear gf
  obtain ⟨v0, fs, rfl, q0, gf⟩ := z
  cases gT_r (τ := τ) (t := 3) (v := v0) rfl q0
  have z := all2_cons gf
  clear gf
  obtain ⟨v0, fs, rfl, q0, gf⟩ := z
  cases gT_r (τ := τ) (t := 4) (v := v0) rfl q0
  have z := all2_cons gf
  clear gf
  obtain ⟨v0, fs, rfl, q0, gf⟩ := z
  cases gT_r (τ := τ) (t := 5) (v := v0) rfl q0
  have z := all2_cons gf
  clear gf
  obtain ⟨v0, fs, rfl, q0, gf⟩ := z
  cases (q0 : v0 = .inr (some (.inl 3)))
  have z := all2_cons gf
  clear gf
  obtain ⟨v0, fs, rfl, q0, gf⟩ := z
  cases gT_r (τ := τ) (t := 6) (v := v0) rfl q0
  have z := all2_cons gf
  clear gf
  obtain ⟨v0, fs, rfl, q0, gf⟩ := z
  cases gT_r (τ := τ) (t := 7) (v := v0) rfl q0
  have z := all2_cons gf
  clear gf
  obtain ⟨v0, fs, rfl, q0, gf⟩ := z
  cases gT_r (τ := τ) (t := 8) (v := v0) rfl q0
  have z := all2_cons gf
  clear gf
  obtain ⟨v0, fs, rfl, q0, gf⟩ := z
  cases gT_r (τ := τ) (t := 9) (v := v0) rfl q0
  have z := all2_cons gf
  clear gf
  obtain ⟨v0, fs, rfl, q0, gf⟩ := z
  cases gT_r (τ := τ) (t := 10) (v := v0) rfl q0
  have z := all2_cons gf
  clear gf
  obtain ⟨v0, fs, rfl, q0, gf⟩ := z
  cases gT_r (τ := τ) (t := 11) (v := v0) rfl q0
  have z := all2_cons gf
  clear gf
  obtain ⟨v0, fs, rfl, q0, gf⟩ := z
  obtain ⟨HS_wasKept, rfl, e_HS_wasKept, b_HS_wasKept⟩ := gT_x (τ := τ) (t := 201) (v := v0) rfl q0
  cases fs with
  | cons _ _ => exact gf.elim
  | nil =>
    have z := all2_cons hh
    clear hh
    obtain ⟨e0, h, rfl, g0, hh⟩ := z
    rcases e0 with ⟨t0, n0, f0⟩ | ⟨ci, fs⟩
    · exact g0.elim
    obtain ⟨rfl, gf⟩ := g0
    have z := all2_cons gf
    clear gf
    obtain ⟨v0, fs, rfl, q0, gf⟩ := z
    cases (q0 : v0 = .inr (some (.inl 2)))
    have z := all2_cons gf
    clear gf
    obtain ⟨v0, fs, rfl, q0, gf⟩ := z
    obtain ⟨Tape_size, rfl, e_Tape_size, b_Tape_size⟩ := gT_x (τ := τ) (t := 202) (v := v0) rfl q0
    cases fs with
    | cons _ _ => exact gf.elim
    | nil =>
      have z := all2_cons hh
      clear hh
      obtain ⟨e1, h, rfl, g1, hh⟩ := z
      rcases e1 with ⟨t1, n1, Tape_bytes⟩ | ⟨ci, fs⟩
      rotate_left
      · exact g1.elim
      obtain ⟨et, en, b_Tape_bytes⟩ := g1
      cases (et : t1 = 0)
      cases en
      have z := all2_cons hh
      clear hh
      obtain ⟨e0, h, rfl, g0, hh⟩ := z
      rcases e0 with ⟨t0, n0, f0⟩ | ⟨ci, fs⟩
      · exact g0.elim
      obtain ⟨rfl, gf⟩ := g0
      have z := all2_cons gf
      clear gf
      obtain ⟨v0, fs, rfl, q0, gf⟩ := z
      cases (q0 : v0 = .inr (some (.inl 1)))
      have z := all2_cons gf
      clear gf
      obtain ⟨v0, fs, rfl, q0, gf⟩ := z
      cases (q0 : v0 = .inr (some (.inl 4)))
      have z := all2_cons gf
      clear gf
      obtain ⟨v0, fs, rfl, q0, gf⟩ := z
      cases (q0 : v0 = .inr (some (.inl 5)))
      have z := all2_cons gf
      clear gf
      obtain ⟨v0, fs, rfl, q0, gf⟩ := z
      obtain ⟨Rid_bits, rfl, b_Rid_bits⟩ := q0
      have z := all2_cons gf
      clear gf
      obtain ⟨v0, fs, rfl, q0, gf⟩ := z
      obtain ⟨Rid_grains, rfl, b_Rid_grains⟩ := q0
      cases fs with
      | cons _ _ => exact gf.elim
      | nil =>
        have z := all2_cons hh
        clear hh
        obtain ⟨e1, h, rfl, g1, hh⟩ := z
        rcases e1 with ⟨t1, n1, Rid_fewest⟩ | ⟨ci, fs⟩
        rotate_left
        · exact g1.elim
        obtain ⟨et, en, b_Rid_fewest⟩ := g1
        cases (et : t1 = 0)
        cases en
        have z := all2_cons hh
        clear hh
        obtain ⟨e1, h, rfl, g1, hh⟩ := z
        rcases e1 with ⟨t1, n1, Rid_got⟩ | ⟨ci, fs⟩
        rotate_left
        · exact g1.elim
        obtain ⟨et, en, b_Rid_got⟩ := g1
        cases (et : t1 = 0)
        cases en
        cases h with
        | cons _ _ => exact hh.elim
        | nil =>
          rw [← e_Tape_size] at hP
          exact c_nmarksC hP

set_option maxRecDepth 100000 in
theorem c_nmarksR {l : Launch} {M_now M_aside M_kept M_mintAt M_mintOf M_wholeOf M_isWall M_wasWall M_said M_waitsAt M_saidLetter M_saidFrom M_saidHalf M_saidTo M_codes M_clauseOf M_codeFrom M_codeHalf M_codeTo M_stack M_facts M_newStamps M_roundFrom M_roundAt M_roundTimes M_usesNow M_wasAt M_someOf M_getsOf : List (Option Nat)} {M_stampMany M_taped M_place0 M_length0 M_fault M_number0 M_open M_codeMany M_waiting M_saidMany M_clauses M_newMany M_rounds M_stampFrom M_stampTimes M_lines M_spot0 M_pullAcross M_pullAlong M_stepsNow M_fallenNow M_isKept : Int32} {M_tape M_fewestFor : Nat → Int32}  {a b : Int32} (hN : ¬ nd_marks a b M_taped) : MetP l 2 yX12_marks cX12_marks 4 (some .int) 0 0 [.inr (some (.inl 0)), .inl a, .inl b] [.inr (11, [.inr (some (.inr M_now)), .inr (some (.inr M_aside)), .inr (some (.inr M_kept)), .inr (some (.inr M_mintAt)), .inr (some (.inr M_mintOf)), .inr (some (.inr M_wholeOf)), .inr (some (.inr M_isWall)), .inr (some (.inr M_wasWall)), .inl M_stampMany, .inr (some (.inl 1)), .inl M_taped, .inl M_place0, .inl M_length0, .inl M_fault, .inl M_number0, .inl M_open, .inl M_codeMany, .inl M_waiting, .inl M_saidMany, .inl M_clauses, .inr (some (.inr M_said)), .inr (some (.inr M_waitsAt)), .inr (some (.inr M_saidLetter)), .inr (some (.inr M_saidFrom)), .inr (some (.inr M_saidHalf)), .inr (some (.inr M_saidTo)), .inr (some (.inr M_codes)), .inr (some (.inr M_clauseOf)), .inr (some (.inr M_codeFrom)), .inr (some (.inr M_codeHalf)), .inr (some (.inr M_codeTo)), .inr (some (.inr M_stack)), .inr (some (.inr M_facts)), .inr (some (.inr M_newStamps)), .inr (some (.inr M_roundFrom)), .inr (some (.inr M_roundAt)), .inr (some (.inr M_roundTimes)), .inl M_newMany, .inl M_rounds, .inl M_stampFrom, .inl M_stampTimes, .inl M_lines, .inl M_spot0, .inl M_pullAcross, .inl M_pullAlong, .inl M_stepsNow, .inl M_fallenNow, .inr (some (.inr M_usesNow)), .inr (some (.inr M_wasAt)), .inr (some (.inr M_someOf)), .inr (some (.inl 2)), .inr (some (.inr M_getsOf)), .inl M_isKept]), .inl (1, 260, M_tape), .inl (0, 601, M_fewestFor)] (fun r h' => r = some (.inl (-1)) ∧ h' = [.inr (11, [.inr (some (.inr M_now)), .inr (some (.inr M_aside)), .inr (some (.inr M_kept)), .inr (some (.inr M_mintAt)), .inr (some (.inr M_mintOf)), .inr (some (.inr M_wholeOf)), .inr (some (.inr M_isWall)), .inr (some (.inr M_wasWall)), .inl M_stampMany, .inr (some (.inl 1)), .inl M_taped, .inl M_place0, .inl M_length0, .inl M_fault, .inl M_number0, .inl M_open, .inl M_codeMany, .inl M_waiting, .inl M_saidMany, .inl M_clauses, .inr (some (.inr M_said)), .inr (some (.inr M_waitsAt)), .inr (some (.inr M_saidLetter)), .inr (some (.inr M_saidFrom)), .inr (some (.inr M_saidHalf)), .inr (some (.inr M_saidTo)), .inr (some (.inr M_codes)), .inr (some (.inr M_clauseOf)), .inr (some (.inr M_codeFrom)), .inr (some (.inr M_codeHalf)), .inr (some (.inr M_codeTo)), .inr (some (.inr M_stack)), .inr (some (.inr M_facts)), .inr (some (.inr M_newStamps)), .inr (some (.inr M_roundFrom)), .inr (some (.inr M_roundAt)), .inr (some (.inr M_roundTimes)), .inl M_newMany, .inl M_rounds, .inl M_stampFrom, .inl M_stampTimes, .inl M_lines, .inl M_spot0, .inl M_pullAcross, .inl M_pullAlong, .inl M_stepsNow, .inl M_fallenNow, .inr (some (.inr M_usesNow)), .inr (some (.inr M_wasAt)), .inr (some (.inr M_someOf)), .inr (some (.inl 2)), .inr (some (.inr M_getsOf)), .inl M_isKept]), .inl (1, 260, M_tape), .inl (0, 601, M_fewestFor)]) := by
  refine m_X12_marks (fun _ _ _ _ => False) (Nat.le_of_ble_eq_true rfl) ?_ (fun _ _ _ _ z => z.elim)
  refine call0 (c_in) rfl rfl ?_
  rintro r h' ⟨rfl, rfl⟩
  refine br_b (fun _ => ⟨rfl, rfl⟩) (fun g1 => ?_)
  refine call0 (c_in) rfl rfl ?_
  rintro r h' ⟨rfl, rfl⟩
  refine br_b (fun _ => ⟨rfl, rfl⟩) (fun g2 => ?_)
  exact And.intro (fun g => absurd ⟨g1, g2, g⟩ hN) (fun _ => ⟨rfl, rfl⟩)
def HI_marksR : List AC := hc_b1dc8a85ac
set_option maxRecDepth 100000 in
theorem i_nmarksR {l : Launch} {a b : Int32} : conOkI (MetP l 2 yX12_marks cX12_marks 4 (some .int) 0 0) [a, b] (-1) HI_marksR (fun τ => ¬ nd_marks a b (decA (τ 202) 0)) := by
  intro τ hΦ hP h hh
  have hP : ¬ nd_marks a b (decA (τ 202) 0) := hP
  have z := all2_cons hh
  clear hh
  obtain ⟨e0, h, rfl, g0, hh⟩ := z
  rcases e0 with ⟨t0, n0, f0⟩ | ⟨ci, fs⟩
  · exact g0.elim
  obtain ⟨rfl, gf⟩ := g0
  have z := all2_cons gf
  clear gf
  obtain ⟨v0, fs, rfl, q0, gf⟩ := z
  cases gT_r (τ := τ) (t := 0) (v := v0) rfl q0
  have z := all2_cons gf
  clear gf
  obtain ⟨v0, fs, rfl, q0, gf⟩ := z
  cases gT_r (τ := τ) (t := 1) (v := v0) rfl q0
  have z := all2_cons gf
  clear gf
  obtain ⟨v0, fs, rfl, q0, gf⟩ := z
  cases gT_r (τ := τ) (t := 2) (v := v0) rfl q0
  have z := all2_cons gf
  clear gf
  obtain ⟨v0, fs, rfl, q0, gf⟩ := z
  cases gT_r (τ := τ) (t := 3) (v := v0) rfl q0
  have z := all2_cons gf
  clear gf
  obtain ⟨v0, fs, rfl, q0, gf⟩ := z
  cases gT_r (τ := τ) (t := 4) (v := v0) rfl q0
  have z := all2_cons gf
  clear gf
  obtain ⟨v0, fs, rfl, q0, gf⟩ := z
  cases gT_r (τ := τ) (t := 5) (v := v0) rfl q0
  have z := all2_cons gf
  clear gf
  obtain ⟨v0, fs, rfl, q0, gf⟩ := z
  cases gT_r (τ := τ) (t := 6) (v := v0) rfl q0
  have z := all2_cons gf
  clear gf
  obtain ⟨v0, fs, rfl, q0, gf⟩ := z
  cases gT_r (τ := τ) (t := 7) (v := v0) rfl q0
  have z := all2_cons gf
  clear gf
  obtain ⟨v0, fs, rfl, q0, gf⟩ := z
  obtain ⟨M_stampMany, rfl, e_M_stampMany, b_M_stampMany⟩ := gT_x (τ := τ) (t := 205) (v := v0) rfl q0
  have z := all2_cons gf
  clear gf
  obtain ⟨v0, fs, rfl, q0, gf⟩ := z
  cases (q0 : v0 = .inr (some (.inl 1)))
  have z := all2_cons gf
  clear gf
  obtain ⟨v0, fs, rfl, q0, gf⟩ := z
  obtain ⟨M_taped, rfl, e_M_taped, b_M_taped⟩ := gT_x (τ := τ) (t := 202) (v := v0) rfl q0
  have z := all2_cons gf
  clear gf
  obtain ⟨v0, fs, rfl, q0, gf⟩ := z
  obtain ⟨M_place0, rfl, b_M_place0⟩ := q0
  have z := all2_cons gf
  clear gf
  obtain ⟨v0, fs, rfl, q0, gf⟩ := z
  obtain ⟨M_length0, rfl, b_M_length0⟩ := q0
  have z := all2_cons gf
  clear gf
  obtain ⟨v0, fs, rfl, q0, gf⟩ := z
  obtain ⟨M_fault, rfl, b_M_fault⟩ := q0
  have z := all2_cons gf
  clear gf
  obtain ⟨v0, fs, rfl, q0, gf⟩ := z
  obtain ⟨M_number0, rfl, b_M_number0⟩ := q0
  have z := all2_cons gf
  clear gf
  obtain ⟨v0, fs, rfl, q0, gf⟩ := z
  obtain ⟨M_open, rfl, b_M_open⟩ := q0
  have z := all2_cons gf
  clear gf
  obtain ⟨v0, fs, rfl, q0, gf⟩ := z
  obtain ⟨M_codeMany, rfl, b_M_codeMany⟩ := q0
  have z := all2_cons gf
  clear gf
  obtain ⟨v0, fs, rfl, q0, gf⟩ := z
  obtain ⟨M_waiting, rfl, b_M_waiting⟩ := q0
  have z := all2_cons gf
  clear gf
  obtain ⟨v0, fs, rfl, q0, gf⟩ := z
  obtain ⟨M_saidMany, rfl, b_M_saidMany⟩ := q0
  have z := all2_cons gf
  clear gf
  obtain ⟨v0, fs, rfl, q0, gf⟩ := z
  obtain ⟨M_clauses, rfl, e_M_clauses, b_M_clauses⟩ := gT_x (τ := τ) (t := 200) (v := v0) rfl q0
  have z := all2_cons gf
  clear gf
  obtain ⟨v0, fs, rfl, q0, gf⟩ := z
  cases gT_r (τ := τ) (t := 8) (v := v0) rfl q0
  have z := all2_cons gf
  clear gf
  obtain ⟨v0, fs, rfl, q0, gf⟩ := z
  cases gT_r (τ := τ) (t := 9) (v := v0) rfl q0
  have z := all2_cons gf
  clear gf
  obtain ⟨v0, fs, rfl, q0, gf⟩ := z
  cases gT_r (τ := τ) (t := 10) (v := v0) rfl q0
  have z := all2_cons gf
  clear gf
  obtain ⟨v0, fs, rfl, q0, gf⟩ := z
  cases gT_r (τ := τ) (t := 11) (v := v0) rfl q0
  have z := all2_cons gf
  clear gf
  obtain ⟨v0, fs, rfl, q0, gf⟩ := z
  cases gT_r (τ := τ) (t := 12) (v := v0) rfl q0
  have z := all2_cons gf
  clear gf
  obtain ⟨v0, fs, rfl, q0, gf⟩ := z
  cases gT_r (τ := τ) (t := 13) (v := v0) rfl q0
  have z := all2_cons gf
  clear gf
  obtain ⟨v0, fs, rfl, q0, gf⟩ := z
  cases gT_r (τ := τ) (t := 14) (v := v0) rfl q0
  have z := all2_cons gf
  clear gf
  obtain ⟨v0, fs, rfl, q0, gf⟩ := z
  cases gT_r (τ := τ) (t := 15) (v := v0) rfl q0
  have z := all2_cons gf
  clear gf
  obtain ⟨v0, fs, rfl, q0, gf⟩ := z
  cases gT_r (τ := τ) (t := 16) (v := v0) rfl q0
  have z := all2_cons gf
  clear gf
  obtain ⟨v0, fs, rfl, q0, gf⟩ := z
  cases gT_r (τ := τ) (t := 17) (v := v0) rfl q0
  have z := all2_cons gf
  clear gf
  obtain ⟨v0, fs, rfl, q0, gf⟩ := z
  cases gT_r (τ := τ) (t := 18) (v := v0) rfl q0
  have z := all2_cons gf
  clear gf
  obtain ⟨v0, fs, rfl, q0, gf⟩ := z
  cases gT_r (τ := τ) (t := 19) (v := v0) rfl q0
  have z := all2_cons gf
  clear gf
  obtain ⟨v0, fs, rfl, q0, gf⟩ := z
  cases gT_r (τ := τ) (t := 20) (v := v0) rfl q0
  have z := all2_cons gf
  clear gf
  obtain ⟨v0, fs, rfl, q0, gf⟩ := z
  cases gT_r (τ := τ) (t := 21) (v := v0) rfl q0
  have z := all2_cons gf
  clear gf
  obtain ⟨v0, fs, rfl, q0, gf⟩ := z
  cases gT_r (τ := τ) (t := 22) (v := v0) rfl q0
  have z := all2_cons gf
  clear gf
  obtain ⟨v0, fs, rfl, q0, gf⟩ := z
  cases gT_r (τ := τ) (t := 23) (v := v0) rfl q0
  have z := all2_cons gf
  clear gf
  obtain ⟨v0, fs, rfl, q0, gf⟩ := z
  cases gT_r (τ := τ) (t := 24) (v := v0) rfl q0
  have z := all2_cons gf
  clear gf
  obtain ⟨v0, fs, rfl, q0, gf⟩ := z
  obtain ⟨M_newMany, rfl, b_M_newMany⟩ := q0
  have z := all2_cons gf
  clear gf
  obtain ⟨v0, fs, rfl, q0, gf⟩ := z
  obtain ⟨M_rounds, rfl, b_M_rounds⟩ := q0
  have z := all2_cons gf
  clear gf
  obtain ⟨v0, fs, rfl, q0, gf⟩ := z
  obtain ⟨M_stampFrom, rfl, b_M_stampFrom⟩ := q0
  have z := all2_cons gf
  clear gf
  obtain ⟨v0, fs, rfl, q0, gf⟩ := z
  obtain ⟨M_stampTimes, rfl, b_M_stampTimes⟩ := q0
  have z := all2_cons gf
  clear gf
  obtain ⟨v0, fs, rfl, q0, gf⟩ := z
  obtain ⟨M_lines, rfl, b_M_lines⟩ := q0
  have z := all2_cons gf
  clear gf
  obtain ⟨v0, fs, rfl, q0, gf⟩ := z
  obtain ⟨M_spot0, rfl, b_M_spot0⟩ := q0
  have z := all2_cons gf
  clear gf
  obtain ⟨v0, fs, rfl, q0, gf⟩ := z
  obtain ⟨M_pullAcross, rfl, b_M_pullAcross⟩ := q0
  have z := all2_cons gf
  clear gf
  obtain ⟨v0, fs, rfl, q0, gf⟩ := z
  obtain ⟨M_pullAlong, rfl, b_M_pullAlong⟩ := q0
  have z := all2_cons gf
  clear gf
  obtain ⟨v0, fs, rfl, q0, gf⟩ := z
  obtain ⟨M_stepsNow, rfl, b_M_stepsNow⟩ := q0
  have z := all2_cons gf
  clear gf
  obtain ⟨v0, fs, rfl, q0, gf⟩ := z
  obtain ⟨M_fallenNow, rfl, b_M_fallenNow⟩ := q0
  have z := all2_cons gf
  clear gf
  obtain ⟨v0, fs, rfl, q0, gf⟩ := z
  cases gT_r (τ := τ) (t := 25) (v := v0) rfl q0
  have z := all2_cons gf
  clear gf
  obtain ⟨v0, fs, rfl, q0, gf⟩ := z
  cases gT_r (τ := τ) (t := 26) (v := v0) rfl q0
  have z := all2_cons gf
  clear gf
  obtain ⟨v0, fs, rfl, q0, gf⟩ := z
  cases gT_r (τ := τ) (t := 27) (v := v0) rfl q0
  have z := all2_cons gf
  clear gf
  obtain ⟨v0, fs, rfl, q0, gf⟩ := z
  cases (q0 : v0 = .inr (some (.inl 2)))
  have z := all2_cons gf
  clear gf
  obtain ⟨v0, fs, rfl, q0, gf⟩ := z
  cases gT_r (τ := τ) (t := 28) (v := v0) rfl q0
  have z := all2_cons gf
  clear gf
  obtain ⟨v0, fs, rfl, q0, gf⟩ := z
  obtain ⟨M_isKept, rfl, e_M_isKept, b_M_isKept⟩ := gT_x (τ := τ) (t := 201) (v := v0) rfl q0
  cases fs with
  | cons _ _ => exact gf.elim
  | nil =>
    have z := all2_cons hh
    clear hh
    obtain ⟨e1, h, rfl, g1, hh⟩ := z
    rcases e1 with ⟨t1, n1, M_tape⟩ | ⟨ci, fs⟩
    rotate_left
    · exact g1.elim
    obtain ⟨et, en, b_M_tape⟩ := g1
    cases (et : t1 = 1)
    cases en
    have z := all2_cons hh
    clear hh
    obtain ⟨e1, h, rfl, g1, hh⟩ := z
    rcases e1 with ⟨t1, n1, M_fewestFor⟩ | ⟨ci, fs⟩
    rotate_left
    · exact g1.elim
    obtain ⟨et, en, b_M_fewestFor⟩ := g1
    cases (et : t1 = 0)
    cases en
    cases h with
    | cons _ _ => exact hh.elim
    | nil =>
      rw [← e_M_taped] at hP
      exact c_nmarksR hP

def nd_franked (a b s : Int32) : Prop := (1 ≤ a ∧ a ≤ 5) ∧ (1 ≤ b ∧ b ≤ 600) ∧ a ≤ s
set_option maxRecDepth 100000 in
theorem c_nfrankedC {l : Launch} {HS_republic HS_now HS_kept HS_trial HS_clerk HS_crew HS_sheetReader HS_postReader HS_lawReader HS_seen HS_rules HS_spareRules : List (Option Nat)} {HS_wasKept Tape_size Rid_bits Rid_grains : Int32} {Tape_bytes Rid_fewest Rid_got : Nat → Int32}  {a b : Int32} (hN : ¬ nd_franked a b Tape_size) : MetP l 3 yX11_franked cX11_franked 4 (some .int) 0 0 [.inr (some (.inl 0)), .inl a, .inl b] [.inr (10, [.inr (some (.inl 1)), .inr (some (.inr HS_republic)), .inr (some (.inr HS_now)), .inr (some (.inr HS_kept)), .inr (some (.inr HS_trial)), .inr (some (.inr HS_clerk)), .inr (some (.inr HS_crew)), .inr (some (.inl 3)), .inr (some (.inr HS_sheetReader)), .inr (some (.inr HS_postReader)), .inr (some (.inr HS_lawReader)), .inr (some (.inr HS_seen)), .inr (some (.inr HS_rules)), .inr (some (.inr HS_spareRules)), .inl HS_wasKept]), .inr (9, [.inr (some (.inl 2)), .inl Tape_size]), .inl (0, 260, Tape_bytes), .inr (7, [.inr (some (.inl 1)), .inr (some (.inl 4)), .inr (some (.inl 5)), .inl Rid_bits, .inl Rid_grains]), .inl (0, 601, Rid_fewest), .inl (0, 6, Rid_got)] (fun r h' => r = some (.inl (-1)) ∧ h' = [.inr (10, [.inr (some (.inl 1)), .inr (some (.inr HS_republic)), .inr (some (.inr HS_now)), .inr (some (.inr HS_kept)), .inr (some (.inr HS_trial)), .inr (some (.inr HS_clerk)), .inr (some (.inr HS_crew)), .inr (some (.inl 3)), .inr (some (.inr HS_sheetReader)), .inr (some (.inr HS_postReader)), .inr (some (.inr HS_lawReader)), .inr (some (.inr HS_seen)), .inr (some (.inr HS_rules)), .inr (some (.inr HS_spareRules)), .inl HS_wasKept]), .inr (9, [.inr (some (.inl 2)), .inl Tape_size]), .inl (0, 260, Tape_bytes), .inr (7, [.inr (some (.inl 1)), .inr (some (.inl 4)), .inr (some (.inl 5)), .inl Rid_bits, .inl Rid_grains]), .inl (0, 601, Rid_fewest), .inl (0, 6, Rid_got)]) := by
  refine m_X11_franked  (Nat.le_of_ble_eq_true rfl) ?_ 
  refine call0 (c_within) rfl rfl ?_
  rintro r h' ⟨rfl, rfl⟩
  refine br_b (fun _ => ⟨rfl, rfl⟩) (fun g1 => ?_)
  refine call0 (c_canGive) rfl rfl ?_
  rintro r h' ⟨rfl, rfl⟩
  exact br_b (fun _ => ⟨rfl, rfl⟩) (fun g => absurd ⟨g.1, g1, g.2⟩ hN)
def HI_frankedC : List AC := hc_69ffd711c1
set_option maxRecDepth 100000 in
theorem i_nfrankedC {l : Launch} {a b : Int32} : conOkI (MetP l 3 yX11_franked cX11_franked 4 (some .int) 0 0) [a, b] (-1) HI_frankedC (fun τ => ¬ nd_franked a b (decA (τ 202) 0)) := by
  intro τ hΦ hP h hh
  have hP : ¬ nd_franked a b (decA (τ 202) 0) := hP
  have z := all2_cons hh
  clear hh
  obtain ⟨e0, h, rfl, g0, hh⟩ := z
  rcases e0 with ⟨t0, n0, f0⟩ | ⟨ci, fs⟩
  · exact g0.elim
  obtain ⟨rfl, gf⟩ := g0
  have z := all2_cons gf
  clear gf
  obtain ⟨v0, fs, rfl, q0, gf⟩ := z
  cases (q0 : v0 = .inr (some (.inl 1)))
  have z := all2_cons gf
  clear gf
  obtain ⟨v0, fs, rfl, q0, gf⟩ := z
  cases gT_r (τ := τ) (t := 0) (v := v0) rfl q0
  have z := all2_cons gf
  clear gf
  obtain ⟨v0, fs, rfl, q0, gf⟩ := z
  cases gT_r (τ := τ) (t := 1) (v := v0) rfl q0
  have z := all2_cons gf
  clear gf
  obtain ⟨v0, fs, rfl, q0, gf⟩ := z
  cases gT_r (τ := τ) (t := 2) (v := v0) rfl q0
  have z := all2_cons gf
  clear gf
  obtain ⟨v0, fs, rfl, q0, gf⟩ := z
  cases gT_r (τ := τ) (t := 3) (v := v0) rfl q0
  have z := all2_cons gf
  clear gf
  obtain ⟨v0, fs, rfl, q0, gf⟩ := z
  cases gT_r (τ := τ) (t := 4) (v := v0) rfl q0
  have z := all2_cons gf
  clear gf
  obtain ⟨v0, fs, rfl, q0, gf⟩ := z
  cases gT_r (τ := τ) (t := 5) (v := v0) rfl q0
  have z := all2_cons gf
  clear gf
  obtain ⟨v0, fs, rfl, q0, gf⟩ := z
  cases (q0 : v0 = .inr (some (.inl 3)))
  have z := all2_cons gf
  clear gf
  obtain ⟨v0, fs, rfl, q0, gf⟩ := z
  cases gT_r (τ := τ) (t := 6) (v := v0) rfl q0
  have z := all2_cons gf
  clear gf
  obtain ⟨v0, fs, rfl, q0, gf⟩ := z
  cases gT_r (τ := τ) (t := 7) (v := v0) rfl q0
  have z := all2_cons gf
  clear gf
  obtain ⟨v0, fs, rfl, q0, gf⟩ := z
  cases gT_r (τ := τ) (t := 8) (v := v0) rfl q0
  have z := all2_cons gf
  clear gf
  obtain ⟨v0, fs, rfl, q0, gf⟩ := z
  cases gT_r (τ := τ) (t := 9) (v := v0) rfl q0
  have z := all2_cons gf
  clear gf
  obtain ⟨v0, fs, rfl, q0, gf⟩ := z
  cases gT_r (τ := τ) (t := 10) (v := v0) rfl q0
  have z := all2_cons gf
  clear gf
  obtain ⟨v0, fs, rfl, q0, gf⟩ := z
  cases gT_r (τ := τ) (t := 11) (v := v0) rfl q0
  have z := all2_cons gf
  clear gf
  obtain ⟨v0, fs, rfl, q0, gf⟩ := z
  obtain ⟨HS_wasKept, rfl, e_HS_wasKept, b_HS_wasKept⟩ := gT_x (τ := τ) (t := 201) (v := v0) rfl q0
  cases fs with
  | cons _ _ => exact gf.elim
  | nil =>
    have z := all2_cons hh
    clear hh
    obtain ⟨e0, h, rfl, g0, hh⟩ := z
    rcases e0 with ⟨t0, n0, f0⟩ | ⟨ci, fs⟩
    · exact g0.elim
    obtain ⟨rfl, gf⟩ := g0
    have z := all2_cons gf
    clear gf
    obtain ⟨v0, fs, rfl, q0, gf⟩ := z
    cases (q0 : v0 = .inr (some (.inl 2)))
    have z := all2_cons gf
    clear gf
    obtain ⟨v0, fs, rfl, q0, gf⟩ := z
    obtain ⟨Tape_size, rfl, e_Tape_size, b_Tape_size⟩ := gT_x (τ := τ) (t := 202) (v := v0) rfl q0
    cases fs with
    | cons _ _ => exact gf.elim
    | nil =>
      have z := all2_cons hh
      clear hh
      obtain ⟨e1, h, rfl, g1, hh⟩ := z
      rcases e1 with ⟨t1, n1, Tape_bytes⟩ | ⟨ci, fs⟩
      rotate_left
      · exact g1.elim
      obtain ⟨et, en, b_Tape_bytes⟩ := g1
      cases (et : t1 = 0)
      cases en
      have z := all2_cons hh
      clear hh
      obtain ⟨e0, h, rfl, g0, hh⟩ := z
      rcases e0 with ⟨t0, n0, f0⟩ | ⟨ci, fs⟩
      · exact g0.elim
      obtain ⟨rfl, gf⟩ := g0
      have z := all2_cons gf
      clear gf
      obtain ⟨v0, fs, rfl, q0, gf⟩ := z
      cases (q0 : v0 = .inr (some (.inl 1)))
      have z := all2_cons gf
      clear gf
      obtain ⟨v0, fs, rfl, q0, gf⟩ := z
      cases (q0 : v0 = .inr (some (.inl 4)))
      have z := all2_cons gf
      clear gf
      obtain ⟨v0, fs, rfl, q0, gf⟩ := z
      cases (q0 : v0 = .inr (some (.inl 5)))
      have z := all2_cons gf
      clear gf
      obtain ⟨v0, fs, rfl, q0, gf⟩ := z
      obtain ⟨Rid_bits, rfl, b_Rid_bits⟩ := q0
      have z := all2_cons gf
      clear gf
      obtain ⟨v0, fs, rfl, q0, gf⟩ := z
      obtain ⟨Rid_grains, rfl, b_Rid_grains⟩ := q0
      cases fs with
      | cons _ _ => exact gf.elim
      | nil =>
        have z := all2_cons hh
        clear hh
        obtain ⟨e1, h, rfl, g1, hh⟩ := z
        rcases e1 with ⟨t1, n1, Rid_fewest⟩ | ⟨ci, fs⟩
        rotate_left
        · exact g1.elim
        obtain ⟨et, en, b_Rid_fewest⟩ := g1
        cases (et : t1 = 0)
        cases en
        have z := all2_cons hh
        clear hh
        obtain ⟨e1, h, rfl, g1, hh⟩ := z
        rcases e1 with ⟨t1, n1, Rid_got⟩ | ⟨ci, fs⟩
        rotate_left
        · exact g1.elim
        obtain ⟨et, en, b_Rid_got⟩ := g1
        cases (et : t1 = 0)
        cases en
        cases h with
        | cons _ _ => exact hh.elim
        | nil =>
          rw [← e_Tape_size] at hP
          exact c_nfrankedC hP

set_option maxRecDepth 100000 in
theorem c_nfrankedR {l : Launch} {M_now M_aside M_kept M_mintAt M_mintOf M_wholeOf M_isWall M_wasWall M_said M_waitsAt M_saidLetter M_saidFrom M_saidHalf M_saidTo M_codes M_clauseOf M_codeFrom M_codeHalf M_codeTo M_stack M_facts M_newStamps M_roundFrom M_roundAt M_roundTimes M_usesNow M_wasAt M_someOf M_getsOf : List (Option Nat)} {M_stampMany M_taped M_place0 M_length0 M_fault M_number0 M_open M_codeMany M_waiting M_saidMany M_clauses M_newMany M_rounds M_stampFrom M_stampTimes M_lines M_spot0 M_pullAcross M_pullAlong M_stepsNow M_fallenNow M_isKept : Int32} {M_tape M_fewestFor : Nat → Int32}  {a b : Int32} (hN : ¬ nd_franked a b M_taped) : MetP l 2 yX12_franked cX12_franked 3 (some .int) 0 0 [.inr (some (.inl 0)), .inl a, .inl b] [.inr (11, [.inr (some (.inr M_now)), .inr (some (.inr M_aside)), .inr (some (.inr M_kept)), .inr (some (.inr M_mintAt)), .inr (some (.inr M_mintOf)), .inr (some (.inr M_wholeOf)), .inr (some (.inr M_isWall)), .inr (some (.inr M_wasWall)), .inl M_stampMany, .inr (some (.inl 1)), .inl M_taped, .inl M_place0, .inl M_length0, .inl M_fault, .inl M_number0, .inl M_open, .inl M_codeMany, .inl M_waiting, .inl M_saidMany, .inl M_clauses, .inr (some (.inr M_said)), .inr (some (.inr M_waitsAt)), .inr (some (.inr M_saidLetter)), .inr (some (.inr M_saidFrom)), .inr (some (.inr M_saidHalf)), .inr (some (.inr M_saidTo)), .inr (some (.inr M_codes)), .inr (some (.inr M_clauseOf)), .inr (some (.inr M_codeFrom)), .inr (some (.inr M_codeHalf)), .inr (some (.inr M_codeTo)), .inr (some (.inr M_stack)), .inr (some (.inr M_facts)), .inr (some (.inr M_newStamps)), .inr (some (.inr M_roundFrom)), .inr (some (.inr M_roundAt)), .inr (some (.inr M_roundTimes)), .inl M_newMany, .inl M_rounds, .inl M_stampFrom, .inl M_stampTimes, .inl M_lines, .inl M_spot0, .inl M_pullAcross, .inl M_pullAlong, .inl M_stepsNow, .inl M_fallenNow, .inr (some (.inr M_usesNow)), .inr (some (.inr M_wasAt)), .inr (some (.inr M_someOf)), .inr (some (.inl 2)), .inr (some (.inr M_getsOf)), .inl M_isKept]), .inl (1, 260, M_tape), .inl (0, 601, M_fewestFor)] (fun r h' => r = some (.inl (-1)) ∧ h' = [.inr (11, [.inr (some (.inr M_now)), .inr (some (.inr M_aside)), .inr (some (.inr M_kept)), .inr (some (.inr M_mintAt)), .inr (some (.inr M_mintOf)), .inr (some (.inr M_wholeOf)), .inr (some (.inr M_isWall)), .inr (some (.inr M_wasWall)), .inl M_stampMany, .inr (some (.inl 1)), .inl M_taped, .inl M_place0, .inl M_length0, .inl M_fault, .inl M_number0, .inl M_open, .inl M_codeMany, .inl M_waiting, .inl M_saidMany, .inl M_clauses, .inr (some (.inr M_said)), .inr (some (.inr M_waitsAt)), .inr (some (.inr M_saidLetter)), .inr (some (.inr M_saidFrom)), .inr (some (.inr M_saidHalf)), .inr (some (.inr M_saidTo)), .inr (some (.inr M_codes)), .inr (some (.inr M_clauseOf)), .inr (some (.inr M_codeFrom)), .inr (some (.inr M_codeHalf)), .inr (some (.inr M_codeTo)), .inr (some (.inr M_stack)), .inr (some (.inr M_facts)), .inr (some (.inr M_newStamps)), .inr (some (.inr M_roundFrom)), .inr (some (.inr M_roundAt)), .inr (some (.inr M_roundTimes)), .inl M_newMany, .inl M_rounds, .inl M_stampFrom, .inl M_stampTimes, .inl M_lines, .inl M_spot0, .inl M_pullAcross, .inl M_pullAlong, .inl M_stepsNow, .inl M_fallenNow, .inr (some (.inr M_usesNow)), .inr (some (.inr M_wasAt)), .inr (some (.inr M_someOf)), .inr (some (.inl 2)), .inr (some (.inr M_getsOf)), .inl M_isKept]), .inl (1, 260, M_tape), .inl (0, 601, M_fewestFor)]) := by
  refine m_X12_franked  (Nat.le_of_ble_eq_true rfl) ?_ 
  refine call0 (c_in) rfl rfl ?_
  rintro r h' ⟨rfl, rfl⟩
  refine br_b (fun _ => ⟨rfl, rfl⟩) (fun g1 => ?_)
  refine call0 (c_in) rfl rfl ?_
  rintro r h' ⟨rfl, rfl⟩
  refine br_b (fun _ => ⟨rfl, rfl⟩) (fun g2 => ?_)
  exact And.intro (fun g => absurd ⟨g1, g2, g⟩ hN) (fun _ => ⟨rfl, rfl⟩)
def HI_frankedR : List AC := hc_b1dc8a85ac
set_option maxRecDepth 100000 in
theorem i_nfrankedR {l : Launch} {a b : Int32} : conOkI (MetP l 2 yX12_franked cX12_franked 3 (some .int) 0 0) [a, b] (-1) HI_frankedR (fun τ => ¬ nd_franked a b (decA (τ 202) 0)) := by
  intro τ hΦ hP h hh
  have hP : ¬ nd_franked a b (decA (τ 202) 0) := hP
  have z := all2_cons hh
  clear hh
  obtain ⟨e0, h, rfl, g0, hh⟩ := z
  rcases e0 with ⟨t0, n0, f0⟩ | ⟨ci, fs⟩
  · exact g0.elim
  obtain ⟨rfl, gf⟩ := g0
  have z := all2_cons gf
  clear gf
  obtain ⟨v0, fs, rfl, q0, gf⟩ := z
  cases gT_r (τ := τ) (t := 0) (v := v0) rfl q0
  have z := all2_cons gf
  clear gf
  obtain ⟨v0, fs, rfl, q0, gf⟩ := z
  cases gT_r (τ := τ) (t := 1) (v := v0) rfl q0
  have z := all2_cons gf
  clear gf
  obtain ⟨v0, fs, rfl, q0, gf⟩ := z
  cases gT_r (τ := τ) (t := 2) (v := v0) rfl q0
  have z := all2_cons gf
  clear gf
  obtain ⟨v0, fs, rfl, q0, gf⟩ := z
  cases gT_r (τ := τ) (t := 3) (v := v0) rfl q0
  have z := all2_cons gf
  clear gf
  obtain ⟨v0, fs, rfl, q0, gf⟩ := z
  cases gT_r (τ := τ) (t := 4) (v := v0) rfl q0
  have z := all2_cons gf
  clear gf
  obtain ⟨v0, fs, rfl, q0, gf⟩ := z
  cases gT_r (τ := τ) (t := 5) (v := v0) rfl q0
  have z := all2_cons gf
  clear gf
  obtain ⟨v0, fs, rfl, q0, gf⟩ := z
  cases gT_r (τ := τ) (t := 6) (v := v0) rfl q0
  have z := all2_cons gf
  clear gf
  obtain ⟨v0, fs, rfl, q0, gf⟩ := z
  cases gT_r (τ := τ) (t := 7) (v := v0) rfl q0
  have z := all2_cons gf
  clear gf
  obtain ⟨v0, fs, rfl, q0, gf⟩ := z
  obtain ⟨M_stampMany, rfl, e_M_stampMany, b_M_stampMany⟩ := gT_x (τ := τ) (t := 205) (v := v0) rfl q0
  have z := all2_cons gf
  clear gf
  obtain ⟨v0, fs, rfl, q0, gf⟩ := z
  cases (q0 : v0 = .inr (some (.inl 1)))
  have z := all2_cons gf
  clear gf
  obtain ⟨v0, fs, rfl, q0, gf⟩ := z
  obtain ⟨M_taped, rfl, e_M_taped, b_M_taped⟩ := gT_x (τ := τ) (t := 202) (v := v0) rfl q0
  have z := all2_cons gf
  clear gf
  obtain ⟨v0, fs, rfl, q0, gf⟩ := z
  obtain ⟨M_place0, rfl, b_M_place0⟩ := q0
  have z := all2_cons gf
  clear gf
  obtain ⟨v0, fs, rfl, q0, gf⟩ := z
  obtain ⟨M_length0, rfl, b_M_length0⟩ := q0
  have z := all2_cons gf
  clear gf
  obtain ⟨v0, fs, rfl, q0, gf⟩ := z
  obtain ⟨M_fault, rfl, b_M_fault⟩ := q0
  have z := all2_cons gf
  clear gf
  obtain ⟨v0, fs, rfl, q0, gf⟩ := z
  obtain ⟨M_number0, rfl, b_M_number0⟩ := q0
  have z := all2_cons gf
  clear gf
  obtain ⟨v0, fs, rfl, q0, gf⟩ := z
  obtain ⟨M_open, rfl, b_M_open⟩ := q0
  have z := all2_cons gf
  clear gf
  obtain ⟨v0, fs, rfl, q0, gf⟩ := z
  obtain ⟨M_codeMany, rfl, b_M_codeMany⟩ := q0
  have z := all2_cons gf
  clear gf
  obtain ⟨v0, fs, rfl, q0, gf⟩ := z
  obtain ⟨M_waiting, rfl, b_M_waiting⟩ := q0
  have z := all2_cons gf
  clear gf
  obtain ⟨v0, fs, rfl, q0, gf⟩ := z
  obtain ⟨M_saidMany, rfl, b_M_saidMany⟩ := q0
  have z := all2_cons gf
  clear gf
  obtain ⟨v0, fs, rfl, q0, gf⟩ := z
  obtain ⟨M_clauses, rfl, e_M_clauses, b_M_clauses⟩ := gT_x (τ := τ) (t := 200) (v := v0) rfl q0
  have z := all2_cons gf
  clear gf
  obtain ⟨v0, fs, rfl, q0, gf⟩ := z
  cases gT_r (τ := τ) (t := 8) (v := v0) rfl q0
  have z := all2_cons gf
  clear gf
  obtain ⟨v0, fs, rfl, q0, gf⟩ := z
  cases gT_r (τ := τ) (t := 9) (v := v0) rfl q0
  have z := all2_cons gf
  clear gf
  obtain ⟨v0, fs, rfl, q0, gf⟩ := z
  cases gT_r (τ := τ) (t := 10) (v := v0) rfl q0
  have z := all2_cons gf
  clear gf
  obtain ⟨v0, fs, rfl, q0, gf⟩ := z
  cases gT_r (τ := τ) (t := 11) (v := v0) rfl q0
  have z := all2_cons gf
  clear gf
  obtain ⟨v0, fs, rfl, q0, gf⟩ := z
  cases gT_r (τ := τ) (t := 12) (v := v0) rfl q0
  have z := all2_cons gf
  clear gf
  obtain ⟨v0, fs, rfl, q0, gf⟩ := z
  cases gT_r (τ := τ) (t := 13) (v := v0) rfl q0
  have z := all2_cons gf
  clear gf
  obtain ⟨v0, fs, rfl, q0, gf⟩ := z
  cases gT_r (τ := τ) (t := 14) (v := v0) rfl q0
  have z := all2_cons gf
  clear gf
  obtain ⟨v0, fs, rfl, q0, gf⟩ := z
  cases gT_r (τ := τ) (t := 15) (v := v0) rfl q0
  have z := all2_cons gf
  clear gf
  obtain ⟨v0, fs, rfl, q0, gf⟩ := z
  cases gT_r (τ := τ) (t := 16) (v := v0) rfl q0
  have z := all2_cons gf
  clear gf
  obtain ⟨v0, fs, rfl, q0, gf⟩ := z
  cases gT_r (τ := τ) (t := 17) (v := v0) rfl q0
  have z := all2_cons gf
  clear gf
  obtain ⟨v0, fs, rfl, q0, gf⟩ := z
  cases gT_r (τ := τ) (t := 18) (v := v0) rfl q0
  have z := all2_cons gf
  clear gf
  obtain ⟨v0, fs, rfl, q0, gf⟩ := z
  cases gT_r (τ := τ) (t := 19) (v := v0) rfl q0
  have z := all2_cons gf
  clear gf
  obtain ⟨v0, fs, rfl, q0, gf⟩ := z
  cases gT_r (τ := τ) (t := 20) (v := v0) rfl q0
  have z := all2_cons gf
  clear gf
  obtain ⟨v0, fs, rfl, q0, gf⟩ := z
  cases gT_r (τ := τ) (t := 21) (v := v0) rfl q0
  have z := all2_cons gf
  clear gf
  obtain ⟨v0, fs, rfl, q0, gf⟩ := z
  cases gT_r (τ := τ) (t := 22) (v := v0) rfl q0
  have z := all2_cons gf
  clear gf
  obtain ⟨v0, fs, rfl, q0, gf⟩ := z
  cases gT_r (τ := τ) (t := 23) (v := v0) rfl q0
  have z := all2_cons gf
  clear gf
  obtain ⟨v0, fs, rfl, q0, gf⟩ := z
  cases gT_r (τ := τ) (t := 24) (v := v0) rfl q0
  have z := all2_cons gf
  clear gf
  obtain ⟨v0, fs, rfl, q0, gf⟩ := z
  obtain ⟨M_newMany, rfl, b_M_newMany⟩ := q0
  have z := all2_cons gf
  clear gf
  obtain ⟨v0, fs, rfl, q0, gf⟩ := z
  obtain ⟨M_rounds, rfl, b_M_rounds⟩ := q0
  have z := all2_cons gf
  clear gf
  obtain ⟨v0, fs, rfl, q0, gf⟩ := z
  obtain ⟨M_stampFrom, rfl, b_M_stampFrom⟩ := q0
  have z := all2_cons gf
  clear gf
  obtain ⟨v0, fs, rfl, q0, gf⟩ := z
  obtain ⟨M_stampTimes, rfl, b_M_stampTimes⟩ := q0
  have z := all2_cons gf
  clear gf
  obtain ⟨v0, fs, rfl, q0, gf⟩ := z
  obtain ⟨M_lines, rfl, b_M_lines⟩ := q0
  have z := all2_cons gf
  clear gf
  obtain ⟨v0, fs, rfl, q0, gf⟩ := z
  obtain ⟨M_spot0, rfl, b_M_spot0⟩ := q0
  have z := all2_cons gf
  clear gf
  obtain ⟨v0, fs, rfl, q0, gf⟩ := z
  obtain ⟨M_pullAcross, rfl, b_M_pullAcross⟩ := q0
  have z := all2_cons gf
  clear gf
  obtain ⟨v0, fs, rfl, q0, gf⟩ := z
  obtain ⟨M_pullAlong, rfl, b_M_pullAlong⟩ := q0
  have z := all2_cons gf
  clear gf
  obtain ⟨v0, fs, rfl, q0, gf⟩ := z
  obtain ⟨M_stepsNow, rfl, b_M_stepsNow⟩ := q0
  have z := all2_cons gf
  clear gf
  obtain ⟨v0, fs, rfl, q0, gf⟩ := z
  obtain ⟨M_fallenNow, rfl, b_M_fallenNow⟩ := q0
  have z := all2_cons gf
  clear gf
  obtain ⟨v0, fs, rfl, q0, gf⟩ := z
  cases gT_r (τ := τ) (t := 25) (v := v0) rfl q0
  have z := all2_cons gf
  clear gf
  obtain ⟨v0, fs, rfl, q0, gf⟩ := z
  cases gT_r (τ := τ) (t := 26) (v := v0) rfl q0
  have z := all2_cons gf
  clear gf
  obtain ⟨v0, fs, rfl, q0, gf⟩ := z
  cases gT_r (τ := τ) (t := 27) (v := v0) rfl q0
  have z := all2_cons gf
  clear gf
  obtain ⟨v0, fs, rfl, q0, gf⟩ := z
  cases (q0 : v0 = .inr (some (.inl 2)))
  have z := all2_cons gf
  clear gf
  obtain ⟨v0, fs, rfl, q0, gf⟩ := z
  cases gT_r (τ := τ) (t := 28) (v := v0) rfl q0
  have z := all2_cons gf
  clear gf
  obtain ⟨v0, fs, rfl, q0, gf⟩ := z
  obtain ⟨M_isKept, rfl, e_M_isKept, b_M_isKept⟩ := gT_x (τ := τ) (t := 201) (v := v0) rfl q0
  cases fs with
  | cons _ _ => exact gf.elim
  | nil =>
    have z := all2_cons hh
    clear hh
    obtain ⟨e1, h, rfl, g1, hh⟩ := z
    rcases e1 with ⟨t1, n1, M_tape⟩ | ⟨ci, fs⟩
    rotate_left
    · exact g1.elim
    obtain ⟨et, en, b_M_tape⟩ := g1
    cases (et : t1 = 1)
    cases en
    have z := all2_cons hh
    clear hh
    obtain ⟨e1, h, rfl, g1, hh⟩ := z
    rcases e1 with ⟨t1, n1, M_fewestFor⟩ | ⟨ci, fs⟩
    rotate_left
    · exact g1.elim
    obtain ⟨et, en, b_M_fewestFor⟩ := g1
    cases (et : t1 = 0)
    cases en
    cases h with
    | cons _ _ => exact hh.elim
    | nil =>
      rw [← e_M_taped] at hP
      exact c_nfrankedR hP

def nd_exchange (a b s : Int32) : Prop := (2 ≤ a ∧ a ≤ 6) ∧ (0 ≤ b ∧ b ≤ f_sub a 1) ∧ f_mul a a ≤ s
set_option maxRecDepth 100000 in
theorem c_nexchangeC {l : Launch} {HS_republic HS_now HS_kept HS_trial HS_clerk HS_crew HS_sheetReader HS_postReader HS_lawReader HS_seen HS_rules HS_spareRules : List (Option Nat)} {HS_wasKept Tape_size Rid_bits Rid_grains : Int32} {Tape_bytes Rid_fewest Rid_got : Nat → Int32}  {a b : Int32} (hN : ¬ nd_exchange a b Tape_size) : MetP l 5 yX11_exchange cX11_exchange 4 (some .int) 0 0 [.inr (some (.inl 0)), .inl a, .inl b] [.inr (10, [.inr (some (.inl 1)), .inr (some (.inr HS_republic)), .inr (some (.inr HS_now)), .inr (some (.inr HS_kept)), .inr (some (.inr HS_trial)), .inr (some (.inr HS_clerk)), .inr (some (.inr HS_crew)), .inr (some (.inl 3)), .inr (some (.inr HS_sheetReader)), .inr (some (.inr HS_postReader)), .inr (some (.inr HS_lawReader)), .inr (some (.inr HS_seen)), .inr (some (.inr HS_rules)), .inr (some (.inr HS_spareRules)), .inl HS_wasKept]), .inr (9, [.inr (some (.inl 2)), .inl Tape_size]), .inl (0, 260, Tape_bytes), .inr (7, [.inr (some (.inl 1)), .inr (some (.inl 4)), .inr (some (.inl 5)), .inl Rid_bits, .inl Rid_grains]), .inl (0, 601, Rid_fewest), .inl (0, 6, Rid_got)] (fun r h' => r = some (.inl (-1)) ∧ h' = [.inr (10, [.inr (some (.inl 1)), .inr (some (.inr HS_republic)), .inr (some (.inr HS_now)), .inr (some (.inr HS_kept)), .inr (some (.inr HS_trial)), .inr (some (.inr HS_clerk)), .inr (some (.inr HS_crew)), .inr (some (.inl 3)), .inr (some (.inr HS_sheetReader)), .inr (some (.inr HS_postReader)), .inr (some (.inr HS_lawReader)), .inr (some (.inr HS_seen)), .inr (some (.inr HS_rules)), .inr (some (.inr HS_spareRules)), .inl HS_wasKept]), .inr (9, [.inr (some (.inl 2)), .inl Tape_size]), .inl (0, 260, Tape_bytes), .inr (7, [.inr (some (.inl 1)), .inr (some (.inl 4)), .inr (some (.inl 5)), .inl Rid_bits, .inl Rid_grains]), .inl (0, 601, Rid_fewest), .inl (0, 6, Rid_got)]) := by
  refine m_X11_exchange  (Nat.le_of_ble_eq_true rfl) ?_ 
  refine call0 (c_within) rfl rfl ?_
  rintro r h' ⟨rfl, rfl⟩
  refine br_b (fun _ => ⟨rfl, rfl⟩) (fun g1 => ?_)
  refine call0 (c_within) rfl rfl ?_
  rintro r h' ⟨rfl, rfl⟩
  refine br_b (fun _ => ⟨rfl, rfl⟩) (fun g2 => ?_)
  refine call0 (c_canGive) rfl rfl ?_
  rintro r h' ⟨rfl, rfl⟩
  exact br_b (fun _ => ⟨rfl, rfl⟩) (fun g => absurd ⟨g1, g2, g.2⟩ hN)
def HI_exchangeC : List AC := hc_69ffd711c1
set_option maxRecDepth 100000 in
theorem i_nexchangeC {l : Launch} {a b : Int32} : conOkI (MetP l 5 yX11_exchange cX11_exchange 4 (some .int) 0 0) [a, b] (-1) HI_exchangeC (fun τ => ¬ nd_exchange a b (decA (τ 202) 0)) := by
  intro τ hΦ hP h hh
  have hP : ¬ nd_exchange a b (decA (τ 202) 0) := hP
  have z := all2_cons hh
  clear hh
  obtain ⟨e0, h, rfl, g0, hh⟩ := z
  rcases e0 with ⟨t0, n0, f0⟩ | ⟨ci, fs⟩
  · exact g0.elim
  obtain ⟨rfl, gf⟩ := g0
  have z := all2_cons gf
  clear gf
  obtain ⟨v0, fs, rfl, q0, gf⟩ := z
  cases (q0 : v0 = .inr (some (.inl 1)))
  have z := all2_cons gf
  clear gf
  obtain ⟨v0, fs, rfl, q0, gf⟩ := z
  cases gT_r (τ := τ) (t := 0) (v := v0) rfl q0
  have z := all2_cons gf
  clear gf
  obtain ⟨v0, fs, rfl, q0, gf⟩ := z
  cases gT_r (τ := τ) (t := 1) (v := v0) rfl q0
  have z := all2_cons gf
  clear gf
  obtain ⟨v0, fs, rfl, q0, gf⟩ := z
  cases gT_r (τ := τ) (t := 2) (v := v0) rfl q0
  have z := all2_cons gf
  clear gf
  obtain ⟨v0, fs, rfl, q0, gf⟩ := z
  cases gT_r (τ := τ) (t := 3) (v := v0) rfl q0
  have z := all2_cons gf
  clear gf
  obtain ⟨v0, fs, rfl, q0, gf⟩ := z
  cases gT_r (τ := τ) (t := 4) (v := v0) rfl q0
  have z := all2_cons gf
  clear gf
  obtain ⟨v0, fs, rfl, q0, gf⟩ := z
  cases gT_r (τ := τ) (t := 5) (v := v0) rfl q0
  have z := all2_cons gf
  clear gf
  obtain ⟨v0, fs, rfl, q0, gf⟩ := z
  cases (q0 : v0 = .inr (some (.inl 3)))
  have z := all2_cons gf
  clear gf
  obtain ⟨v0, fs, rfl, q0, gf⟩ := z
  cases gT_r (τ := τ) (t := 6) (v := v0) rfl q0
  have z := all2_cons gf
  clear gf
  obtain ⟨v0, fs, rfl, q0, gf⟩ := z
  cases gT_r (τ := τ) (t := 7) (v := v0) rfl q0
  have z := all2_cons gf
  clear gf
  obtain ⟨v0, fs, rfl, q0, gf⟩ := z
  cases gT_r (τ := τ) (t := 8) (v := v0) rfl q0
  have z := all2_cons gf
  clear gf
  obtain ⟨v0, fs, rfl, q0, gf⟩ := z
  cases gT_r (τ := τ) (t := 9) (v := v0) rfl q0
  have z := all2_cons gf
  clear gf
  obtain ⟨v0, fs, rfl, q0, gf⟩ := z
  cases gT_r (τ := τ) (t := 10) (v := v0) rfl q0
  have z := all2_cons gf
  clear gf
  obtain ⟨v0, fs, rfl, q0, gf⟩ := z
  cases gT_r (τ := τ) (t := 11) (v := v0) rfl q0
  have z := all2_cons gf
  clear gf
  obtain ⟨v0, fs, rfl, q0, gf⟩ := z
  obtain ⟨HS_wasKept, rfl, e_HS_wasKept, b_HS_wasKept⟩ := gT_x (τ := τ) (t := 201) (v := v0) rfl q0
  cases fs with
  | cons _ _ => exact gf.elim
  | nil =>
    have z := all2_cons hh
    clear hh
    obtain ⟨e0, h, rfl, g0, hh⟩ := z
    rcases e0 with ⟨t0, n0, f0⟩ | ⟨ci, fs⟩
    · exact g0.elim
    obtain ⟨rfl, gf⟩ := g0
    have z := all2_cons gf
    clear gf
    obtain ⟨v0, fs, rfl, q0, gf⟩ := z
    cases (q0 : v0 = .inr (some (.inl 2)))
    have z := all2_cons gf
    clear gf
    obtain ⟨v0, fs, rfl, q0, gf⟩ := z
    obtain ⟨Tape_size, rfl, e_Tape_size, b_Tape_size⟩ := gT_x (τ := τ) (t := 202) (v := v0) rfl q0
    cases fs with
    | cons _ _ => exact gf.elim
    | nil =>
      have z := all2_cons hh
      clear hh
      obtain ⟨e1, h, rfl, g1, hh⟩ := z
      rcases e1 with ⟨t1, n1, Tape_bytes⟩ | ⟨ci, fs⟩
      rotate_left
      · exact g1.elim
      obtain ⟨et, en, b_Tape_bytes⟩ := g1
      cases (et : t1 = 0)
      cases en
      have z := all2_cons hh
      clear hh
      obtain ⟨e0, h, rfl, g0, hh⟩ := z
      rcases e0 with ⟨t0, n0, f0⟩ | ⟨ci, fs⟩
      · exact g0.elim
      obtain ⟨rfl, gf⟩ := g0
      have z := all2_cons gf
      clear gf
      obtain ⟨v0, fs, rfl, q0, gf⟩ := z
      cases (q0 : v0 = .inr (some (.inl 1)))
      have z := all2_cons gf
      clear gf
      obtain ⟨v0, fs, rfl, q0, gf⟩ := z
      cases (q0 : v0 = .inr (some (.inl 4)))
      have z := all2_cons gf
      clear gf
      obtain ⟨v0, fs, rfl, q0, gf⟩ := z
      cases (q0 : v0 = .inr (some (.inl 5)))
      have z := all2_cons gf
      clear gf
      obtain ⟨v0, fs, rfl, q0, gf⟩ := z
      obtain ⟨Rid_bits, rfl, b_Rid_bits⟩ := q0
      have z := all2_cons gf
      clear gf
      obtain ⟨v0, fs, rfl, q0, gf⟩ := z
      obtain ⟨Rid_grains, rfl, b_Rid_grains⟩ := q0
      cases fs with
      | cons _ _ => exact gf.elim
      | nil =>
        have z := all2_cons hh
        clear hh
        obtain ⟨e1, h, rfl, g1, hh⟩ := z
        rcases e1 with ⟨t1, n1, Rid_fewest⟩ | ⟨ci, fs⟩
        rotate_left
        · exact g1.elim
        obtain ⟨et, en, b_Rid_fewest⟩ := g1
        cases (et : t1 = 0)
        cases en
        have z := all2_cons hh
        clear hh
        obtain ⟨e1, h, rfl, g1, hh⟩ := z
        rcases e1 with ⟨t1, n1, Rid_got⟩ | ⟨ci, fs⟩
        rotate_left
        · exact g1.elim
        obtain ⟨et, en, b_Rid_got⟩ := g1
        cases (et : t1 = 0)
        cases en
        cases h with
        | cons _ _ => exact hh.elim
        | nil =>
          rw [← e_Tape_size] at hP
          exact c_nexchangeC hP

set_option maxRecDepth 100000 in
theorem c_nexchangeR {l : Launch} {M_now M_aside M_kept M_mintAt M_mintOf M_wholeOf M_isWall M_wasWall M_said M_waitsAt M_saidLetter M_saidFrom M_saidHalf M_saidTo M_codes M_clauseOf M_codeFrom M_codeHalf M_codeTo M_stack M_facts M_newStamps M_roundFrom M_roundAt M_roundTimes M_usesNow M_wasAt M_someOf M_fewestFor : List (Option Nat)} {M_stampMany M_taped M_place0 M_length0 M_fault M_number0 M_open M_codeMany M_waiting M_saidMany M_clauses M_newMany M_rounds M_stampFrom M_stampTimes M_lines M_spot0 M_pullAcross M_pullAlong M_stepsNow M_fallenNow M_isKept : Int32} {M_tape M_getsOf : Nat → Int32}  {a b : Int32} (hN : ¬ nd_exchange a b M_taped) : MetP l 3 yX12_exchange cX12_exchange 4 (some .int) 0 0 [.inr (some (.inl 0)), .inl a, .inl b] [.inr (11, [.inr (some (.inr M_now)), .inr (some (.inr M_aside)), .inr (some (.inr M_kept)), .inr (some (.inr M_mintAt)), .inr (some (.inr M_mintOf)), .inr (some (.inr M_wholeOf)), .inr (some (.inr M_isWall)), .inr (some (.inr M_wasWall)), .inl M_stampMany, .inr (some (.inl 1)), .inl M_taped, .inl M_place0, .inl M_length0, .inl M_fault, .inl M_number0, .inl M_open, .inl M_codeMany, .inl M_waiting, .inl M_saidMany, .inl M_clauses, .inr (some (.inr M_said)), .inr (some (.inr M_waitsAt)), .inr (some (.inr M_saidLetter)), .inr (some (.inr M_saidFrom)), .inr (some (.inr M_saidHalf)), .inr (some (.inr M_saidTo)), .inr (some (.inr M_codes)), .inr (some (.inr M_clauseOf)), .inr (some (.inr M_codeFrom)), .inr (some (.inr M_codeHalf)), .inr (some (.inr M_codeTo)), .inr (some (.inr M_stack)), .inr (some (.inr M_facts)), .inr (some (.inr M_newStamps)), .inr (some (.inr M_roundFrom)), .inr (some (.inr M_roundAt)), .inr (some (.inr M_roundTimes)), .inl M_newMany, .inl M_rounds, .inl M_stampFrom, .inl M_stampTimes, .inl M_lines, .inl M_spot0, .inl M_pullAcross, .inl M_pullAlong, .inl M_stepsNow, .inl M_fallenNow, .inr (some (.inr M_usesNow)), .inr (some (.inr M_wasAt)), .inr (some (.inr M_someOf)), .inr (some (.inr M_fewestFor)), .inr (some (.inl 2)), .inl M_isKept]), .inl (1, 260, M_tape), .inl (0, 6, M_getsOf)] (fun r h' => r = some (.inl (-1)) ∧ h' = [.inr (11, [.inr (some (.inr M_now)), .inr (some (.inr M_aside)), .inr (some (.inr M_kept)), .inr (some (.inr M_mintAt)), .inr (some (.inr M_mintOf)), .inr (some (.inr M_wholeOf)), .inr (some (.inr M_isWall)), .inr (some (.inr M_wasWall)), .inl M_stampMany, .inr (some (.inl 1)), .inl M_taped, .inl M_place0, .inl M_length0, .inl M_fault, .inl M_number0, .inl M_open, .inl M_codeMany, .inl M_waiting, .inl M_saidMany, .inl M_clauses, .inr (some (.inr M_said)), .inr (some (.inr M_waitsAt)), .inr (some (.inr M_saidLetter)), .inr (some (.inr M_saidFrom)), .inr (some (.inr M_saidHalf)), .inr (some (.inr M_saidTo)), .inr (some (.inr M_codes)), .inr (some (.inr M_clauseOf)), .inr (some (.inr M_codeFrom)), .inr (some (.inr M_codeHalf)), .inr (some (.inr M_codeTo)), .inr (some (.inr M_stack)), .inr (some (.inr M_facts)), .inr (some (.inr M_newStamps)), .inr (some (.inr M_roundFrom)), .inr (some (.inr M_roundAt)), .inr (some (.inr M_roundTimes)), .inl M_newMany, .inl M_rounds, .inl M_stampFrom, .inl M_stampTimes, .inl M_lines, .inl M_spot0, .inl M_pullAcross, .inl M_pullAlong, .inl M_stepsNow, .inl M_fallenNow, .inr (some (.inr M_usesNow)), .inr (some (.inr M_wasAt)), .inr (some (.inr M_someOf)), .inr (some (.inr M_fewestFor)), .inr (some (.inl 2)), .inl M_isKept]), .inl (1, 260, M_tape), .inl (0, 6, M_getsOf)]) := by
  refine m_X12_exchange (fun _ _ _ _ => False) (Nat.le_of_ble_eq_true rfl) ?_ (fun _ _ _ _ z => z.elim)
  refine call0 (c_in) rfl rfl ?_
  rintro r h' ⟨rfl, rfl⟩
  refine br_b (fun _ => ⟨rfl, rfl⟩) (fun g1 => ?_)
  refine call0 (c_in) rfl rfl ?_
  rintro r h' ⟨rfl, rfl⟩
  refine br_b (fun _ => ⟨rfl, rfl⟩) (fun g2 => ?_)
  exact And.intro (fun g => absurd ⟨g1, g2, g⟩ hN) (fun _ => ⟨rfl, rfl⟩)
def HI_exchangeR : List AC := [.inr (11, [.inr (.inr (some (.inr 0))), .inr (.inr (some (.inr 1))), .inr (.inr (some (.inr 2))), .inr (.inr (some (.inr 3))), .inr (.inr (some (.inr 4))), .inr (.inr (some (.inr 5))), .inr (.inr (some (.inr 6))), .inr (.inr (some (.inr 7))), .inr (.inr (some (.inr 205))), .inr (.inr (some (.inl 1))), .inr (.inr (some (.inr 202))), .inl (0, 240), .inl (0, 240), .inl (-2147483648, 2147483647), .inl (-2147483648, 2147483647), .inl (-2147483648, 2147483647), .inl (0, 260), .inl (0, 260), .inl (0, 16), .inr (.inr (some (.inr 200))), .inr (.inr (some (.inr 8))), .inr (.inr (some (.inr 9))), .inr (.inr (some (.inr 10))), .inr (.inr (some (.inr 11))), .inr (.inr (some (.inr 12))), .inr (.inr (some (.inr 13))), .inr (.inr (some (.inr 14))), .inr (.inr (some (.inr 15))), .inr (.inr (some (.inr 16))), .inr (.inr (some (.inr 17))), .inr (.inr (some (.inr 18))), .inr (.inr (some (.inr 19))), .inr (.inr (some (.inr 20))), .inr (.inr (some (.inr 21))), .inr (.inr (some (.inr 22))), .inr (.inr (some (.inr 23))), .inr (.inr (some (.inr 24))), .inl (-2147483648, 2147483647), .inl (-2147483648, 2147483647), .inl (-2147483648, 2147483647), .inl (-2147483648, 2147483647), .inl (-2147483648, 2147483647), .inl (-2147483648, 2147483647), .inl (-2147483648, 2147483647), .inl (-2147483648, 2147483647), .inl (-2147483648, 2147483647), .inl (-2147483648, 2147483647), .inr (.inr (some (.inr 25))), .inr (.inr (some (.inr 26))), .inr (.inr (some (.inr 27))), .inr (.inr (some (.inr 28))), .inr (.inr (some (.inl 2))), .inr (.inr (some (.inr 201)))]), .inl (1005, 260, -128, 127), .inl (0, 6, -2147483648, 2147483647)]
set_option maxRecDepth 100000 in
theorem i_nexchangeR {l : Launch} {a b : Int32} : conOkI (MetP l 3 yX12_exchange cX12_exchange 4 (some .int) 0 0) [a, b] (-1) HI_exchangeR (fun τ => ¬ nd_exchange a b (decA (τ 202) 0)) := by
  intro τ hΦ hP h hh
  have hP : ¬ nd_exchange a b (decA (τ 202) 0) := hP
  have z := all2_cons hh
  clear hh
  obtain ⟨e0, h, rfl, g0, hh⟩ := z
  rcases e0 with ⟨t0, n0, f0⟩ | ⟨ci, fs⟩
  · exact g0.elim
  obtain ⟨rfl, gf⟩ := g0
  have z := all2_cons gf
  clear gf
  obtain ⟨v0, fs, rfl, q0, gf⟩ := z
  cases gT_r (τ := τ) (t := 0) (v := v0) rfl q0
  have z := all2_cons gf
  clear gf
  obtain ⟨v0, fs, rfl, q0, gf⟩ := z
  cases gT_r (τ := τ) (t := 1) (v := v0) rfl q0
  have z := all2_cons gf
  clear gf
  obtain ⟨v0, fs, rfl, q0, gf⟩ := z
  cases gT_r (τ := τ) (t := 2) (v := v0) rfl q0
  have z := all2_cons gf
  clear gf
  obtain ⟨v0, fs, rfl, q0, gf⟩ := z
  cases gT_r (τ := τ) (t := 3) (v := v0) rfl q0
  have z := all2_cons gf
  clear gf
  obtain ⟨v0, fs, rfl, q0, gf⟩ := z
  cases gT_r (τ := τ) (t := 4) (v := v0) rfl q0
  have z := all2_cons gf
  clear gf
  obtain ⟨v0, fs, rfl, q0, gf⟩ := z
  cases gT_r (τ := τ) (t := 5) (v := v0) rfl q0
  have z := all2_cons gf
  clear gf
  obtain ⟨v0, fs, rfl, q0, gf⟩ := z
  cases gT_r (τ := τ) (t := 6) (v := v0) rfl q0
  have z := all2_cons gf
  clear gf
  obtain ⟨v0, fs, rfl, q0, gf⟩ := z
  cases gT_r (τ := τ) (t := 7) (v := v0) rfl q0
  have z := all2_cons gf
  clear gf
  obtain ⟨v0, fs, rfl, q0, gf⟩ := z
  obtain ⟨M_stampMany, rfl, e_M_stampMany, b_M_stampMany⟩ := gT_x (τ := τ) (t := 205) (v := v0) rfl q0
  have z := all2_cons gf
  clear gf
  obtain ⟨v0, fs, rfl, q0, gf⟩ := z
  cases (q0 : v0 = .inr (some (.inl 1)))
  have z := all2_cons gf
  clear gf
  obtain ⟨v0, fs, rfl, q0, gf⟩ := z
  obtain ⟨M_taped, rfl, e_M_taped, b_M_taped⟩ := gT_x (τ := τ) (t := 202) (v := v0) rfl q0
  have z := all2_cons gf
  clear gf
  obtain ⟨v0, fs, rfl, q0, gf⟩ := z
  obtain ⟨M_place0, rfl, b_M_place0⟩ := q0
  have z := all2_cons gf
  clear gf
  obtain ⟨v0, fs, rfl, q0, gf⟩ := z
  obtain ⟨M_length0, rfl, b_M_length0⟩ := q0
  have z := all2_cons gf
  clear gf
  obtain ⟨v0, fs, rfl, q0, gf⟩ := z
  obtain ⟨M_fault, rfl, b_M_fault⟩ := q0
  have z := all2_cons gf
  clear gf
  obtain ⟨v0, fs, rfl, q0, gf⟩ := z
  obtain ⟨M_number0, rfl, b_M_number0⟩ := q0
  have z := all2_cons gf
  clear gf
  obtain ⟨v0, fs, rfl, q0, gf⟩ := z
  obtain ⟨M_open, rfl, b_M_open⟩ := q0
  have z := all2_cons gf
  clear gf
  obtain ⟨v0, fs, rfl, q0, gf⟩ := z
  obtain ⟨M_codeMany, rfl, b_M_codeMany⟩ := q0
  have z := all2_cons gf
  clear gf
  obtain ⟨v0, fs, rfl, q0, gf⟩ := z
  obtain ⟨M_waiting, rfl, b_M_waiting⟩ := q0
  have z := all2_cons gf
  clear gf
  obtain ⟨v0, fs, rfl, q0, gf⟩ := z
  obtain ⟨M_saidMany, rfl, b_M_saidMany⟩ := q0
  have z := all2_cons gf
  clear gf
  obtain ⟨v0, fs, rfl, q0, gf⟩ := z
  obtain ⟨M_clauses, rfl, e_M_clauses, b_M_clauses⟩ := gT_x (τ := τ) (t := 200) (v := v0) rfl q0
  have z := all2_cons gf
  clear gf
  obtain ⟨v0, fs, rfl, q0, gf⟩ := z
  cases gT_r (τ := τ) (t := 8) (v := v0) rfl q0
  have z := all2_cons gf
  clear gf
  obtain ⟨v0, fs, rfl, q0, gf⟩ := z
  cases gT_r (τ := τ) (t := 9) (v := v0) rfl q0
  have z := all2_cons gf
  clear gf
  obtain ⟨v0, fs, rfl, q0, gf⟩ := z
  cases gT_r (τ := τ) (t := 10) (v := v0) rfl q0
  have z := all2_cons gf
  clear gf
  obtain ⟨v0, fs, rfl, q0, gf⟩ := z
  cases gT_r (τ := τ) (t := 11) (v := v0) rfl q0
  have z := all2_cons gf
  clear gf
  obtain ⟨v0, fs, rfl, q0, gf⟩ := z
  cases gT_r (τ := τ) (t := 12) (v := v0) rfl q0
  have z := all2_cons gf
  clear gf
  obtain ⟨v0, fs, rfl, q0, gf⟩ := z
  cases gT_r (τ := τ) (t := 13) (v := v0) rfl q0
  have z := all2_cons gf
  clear gf
  obtain ⟨v0, fs, rfl, q0, gf⟩ := z
  cases gT_r (τ := τ) (t := 14) (v := v0) rfl q0
  have z := all2_cons gf
  clear gf
  obtain ⟨v0, fs, rfl, q0, gf⟩ := z
  cases gT_r (τ := τ) (t := 15) (v := v0) rfl q0
  have z := all2_cons gf
  clear gf
  obtain ⟨v0, fs, rfl, q0, gf⟩ := z
  cases gT_r (τ := τ) (t := 16) (v := v0) rfl q0
  have z := all2_cons gf
  clear gf
  obtain ⟨v0, fs, rfl, q0, gf⟩ := z
  cases gT_r (τ := τ) (t := 17) (v := v0) rfl q0
  have z := all2_cons gf
  clear gf
  obtain ⟨v0, fs, rfl, q0, gf⟩ := z
  cases gT_r (τ := τ) (t := 18) (v := v0) rfl q0
  have z := all2_cons gf
  clear gf
  obtain ⟨v0, fs, rfl, q0, gf⟩ := z
  cases gT_r (τ := τ) (t := 19) (v := v0) rfl q0
  have z := all2_cons gf
  clear gf
  obtain ⟨v0, fs, rfl, q0, gf⟩ := z
  cases gT_r (τ := τ) (t := 20) (v := v0) rfl q0
  have z := all2_cons gf
  clear gf
  obtain ⟨v0, fs, rfl, q0, gf⟩ := z
  cases gT_r (τ := τ) (t := 21) (v := v0) rfl q0
  have z := all2_cons gf
  clear gf
  obtain ⟨v0, fs, rfl, q0, gf⟩ := z
  cases gT_r (τ := τ) (t := 22) (v := v0) rfl q0
  have z := all2_cons gf
  clear gf
  obtain ⟨v0, fs, rfl, q0, gf⟩ := z
  cases gT_r (τ := τ) (t := 23) (v := v0) rfl q0
  have z := all2_cons gf
  clear gf
  obtain ⟨v0, fs, rfl, q0, gf⟩ := z
  cases gT_r (τ := τ) (t := 24) (v := v0) rfl q0
  have z := all2_cons gf
  clear gf
  obtain ⟨v0, fs, rfl, q0, gf⟩ := z
  obtain ⟨M_newMany, rfl, b_M_newMany⟩ := q0
  have z := all2_cons gf
  clear gf
  obtain ⟨v0, fs, rfl, q0, gf⟩ := z
  obtain ⟨M_rounds, rfl, b_M_rounds⟩ := q0
  have z := all2_cons gf
  clear gf
  obtain ⟨v0, fs, rfl, q0, gf⟩ := z
  obtain ⟨M_stampFrom, rfl, b_M_stampFrom⟩ := q0
  have z := all2_cons gf
  clear gf
  obtain ⟨v0, fs, rfl, q0, gf⟩ := z
  obtain ⟨M_stampTimes, rfl, b_M_stampTimes⟩ := q0
  have z := all2_cons gf
  clear gf
  obtain ⟨v0, fs, rfl, q0, gf⟩ := z
  obtain ⟨M_lines, rfl, b_M_lines⟩ := q0
  have z := all2_cons gf
  clear gf
  obtain ⟨v0, fs, rfl, q0, gf⟩ := z
  obtain ⟨M_spot0, rfl, b_M_spot0⟩ := q0
  have z := all2_cons gf
  clear gf
  obtain ⟨v0, fs, rfl, q0, gf⟩ := z
  obtain ⟨M_pullAcross, rfl, b_M_pullAcross⟩ := q0
  have z := all2_cons gf
  clear gf
  obtain ⟨v0, fs, rfl, q0, gf⟩ := z
  obtain ⟨M_pullAlong, rfl, b_M_pullAlong⟩ := q0
  have z := all2_cons gf
  clear gf
  obtain ⟨v0, fs, rfl, q0, gf⟩ := z
  obtain ⟨M_stepsNow, rfl, b_M_stepsNow⟩ := q0
  have z := all2_cons gf
  clear gf
  obtain ⟨v0, fs, rfl, q0, gf⟩ := z
  obtain ⟨M_fallenNow, rfl, b_M_fallenNow⟩ := q0
  have z := all2_cons gf
  clear gf
  obtain ⟨v0, fs, rfl, q0, gf⟩ := z
  cases gT_r (τ := τ) (t := 25) (v := v0) rfl q0
  have z := all2_cons gf
  clear gf
  obtain ⟨v0, fs, rfl, q0, gf⟩ := z
  cases gT_r (τ := τ) (t := 26) (v := v0) rfl q0
  have z := all2_cons gf
  clear gf
  obtain ⟨v0, fs, rfl, q0, gf⟩ := z
  cases gT_r (τ := τ) (t := 27) (v := v0) rfl q0
  have z := all2_cons gf
  clear gf
  obtain ⟨v0, fs, rfl, q0, gf⟩ := z
  cases gT_r (τ := τ) (t := 28) (v := v0) rfl q0
  have z := all2_cons gf
  clear gf
  obtain ⟨v0, fs, rfl, q0, gf⟩ := z
  cases (q0 : v0 = .inr (some (.inl 2)))
  have z := all2_cons gf
  clear gf
  obtain ⟨v0, fs, rfl, q0, gf⟩ := z
  obtain ⟨M_isKept, rfl, e_M_isKept, b_M_isKept⟩ := gT_x (τ := τ) (t := 201) (v := v0) rfl q0
  cases fs with
  | cons _ _ => exact gf.elim
  | nil =>
    have z := all2_cons hh
    clear hh
    obtain ⟨e1, h, rfl, g1, hh⟩ := z
    rcases e1 with ⟨t1, n1, M_tape⟩ | ⟨ci, fs⟩
    rotate_left
    · exact g1.elim
    obtain ⟨et, en, b_M_tape⟩ := g1
    cases (et : t1 = 1)
    cases en
    have z := all2_cons hh
    clear hh
    obtain ⟨e1, h, rfl, g1, hh⟩ := z
    rcases e1 with ⟨t1, n1, M_getsOf⟩ | ⟨ci, fs⟩
    rotate_left
    · exact g1.elim
    obtain ⟨et, en, b_M_getsOf⟩ := g1
    cases (et : t1 = 0)
    cases en
    cases h with
    | cons _ _ => exact hh.elim
    | nil =>
      rw [← e_M_taped] at hP
      exact c_nexchangeR hP

