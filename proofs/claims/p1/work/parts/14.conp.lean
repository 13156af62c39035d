theorem cg_no {n lo hi : Int32} (hlo : 0 < lo) : ¬ ((lo ≤ n ∧ n ≤ hi) ∧ n ≤ 0) := fun z => by
  have h1 := Int32.le_iff_toInt_le.mp z.1.1
  have h2 := Int32.le_iff_toInt_le.mp z.2
  have h3 := Int32.lt_iff_toInt_lt.mp hlo
  omega
theorem vp_le {m hi : Int32} {N : Nat} (h : 0 ≤ m ∧ m ≤ hi) (hN : hi.toInt < N) : vp_in m N := by
  have h1 := Int32.le_iff_toInt_le.mp h.1
  have h2 := Int32.le_iff_toInt_le.mp h.2
  rw [Int32.toInt_zero] at h1
  exact vp_in_iff.mpr ⟨h1, by omega⟩
theorem shr0 (x : Int32) : f_shr 0 x = 0 := by
  unfold f_shr
  simp
theorem no_told {x : Int32} : ¬ ((0 ≤ x ∧ x ≤ 7) ∧ f_and (f_shr 0 x) 1 = 1) := fun z => by
  have h := z.2
  rw [shr0] at h
  exact absurd h (by decide +kernel)
theorem nI_lit (n : Nat) : (OfNat.ofNat n : Int32) = nI n := rfl

theorem c_X7_tellMint {l : Launch} {Rep_toldMints Rep_walls Rep_stamps : Int32} {Rep_mintX Rep_mintY Rep_wall Rep_mintOf Rep_grainsOf : Nat → Int32} {m x y : Int32} (hm : 0 ≤ m ∧ m ≤ 7) : MetP l 1 yX7_tellMint cX7_tellMint 4 none 0 0 [.inr (some (.inl 0)), .inl m, .inl x, .inl y] [.inr (6, [.inr (some (.inl 1)), .inr (some (.inl 2)), .inr (some (.inl 3)), .inr (some (.inl 4)), .inr (some (.inl 5)), .inl Rep_toldMints, .inl Rep_walls, .inl Rep_stamps]), .inl (0, 8, Rep_mintX), .inl (0, 8, Rep_mintY), .inl (2, 384, Rep_wall), .inl (0, 48, Rep_mintOf), .inl (0, 48, Rep_grainsOf)] (fun r h' => r = none ∧ h' = [.inr (6, [.inr (some (.inl 1)), .inr (some (.inl 2)), .inr (some (.inl 3)), .inr (some (.inl 4)), .inr (some (.inl 5)), .inl (f_or Rep_toldMints (f_shl 1 m)), .inl Rep_walls, .inl Rep_stamps]), .inl (0, 8, (upd Rep_mintX m.toNatClampNeg x)), .inl (0, 8, (upd Rep_mintY m.toNatClampNeg y)), .inl (2, 384, Rep_wall), .inl (0, 48, Rep_mintOf), .inl (0, 48, Rep_grainsOf)]) := by
  refine m_X7_tellMint (Nat.le_of_ble_eq_true rfl) ?_
  refine call0 (c_within) rfl rfl ?_
  rintro r h' ⟨rfl, rfl⟩
  refine br_b (fun h1 => absurd hm h1) (fun h1 => ?_)
  refine And.intro (vp_le hm (by decide)) ?_
  refine And.intro (vp_le hm (by decide)) ?_
  exact ⟨rfl, rfl⟩

theorem f_X11_mint {l : Launch} {HS_tape HS_now HS_kept HS_trial HS_clerk HS_crew HS_riddles HS_sheetReader HS_postReader HS_lawReader HS_seen HS_rules HS_spareRules : List (Option Nat)} {a b c : Int32}  : MetP l 2 yX11_mint cX11_mint 4 (some .boolean) 0 0 [.inr (some (.inl 0)), .inl a, .inl b, .inl c] [.inr (10, [.inr (some (.inr HS_tape)), .inr (some (.inl 1)), .inr (some (.inr HS_now)), .inr (some (.inr HS_kept)), .inr (some (.inr HS_trial)), .inr (some (.inr HS_clerk)), .inr (some (.inr HS_crew)), .inr (some (.inr HS_riddles)), .inr (some (.inr HS_sheetReader)), .inr (some (.inr HS_postReader)), .inr (some (.inr HS_lawReader)), .inr (some (.inr HS_seen)), .inr (some (.inr HS_rules)), .inr (some (.inr HS_spareRules)), .inl 0]), .inr (6, [.inr (some (.inl 2)), .inr (some (.inl 3)), .inr (some (.inl 4)), .inr (some (.inl 5)), .inr (some (.inl 6)), .inl 0, .inl 0, .inl 0]), .inl (0, 8, (fun _ => 0)), .inl (0, 8, (fun _ => 0)), .inl (2, 384, (fun _ => 0)), .inl (0, 48, (fun _ => 0)), .inl (0, 48, (fun _ => 0))] (fun r h' => r = some (.inl (bI (((0 ≤ a ∧ a ≤ 7) ∧ (0 ≤ b ∧ b ≤ 23)) ∧ (0 ≤ c ∧ c ≤ 15)))) ∧ h'.length = 7) := by
  refine m_X11_mint (Nat.le_of_ble_eq_true rfl) ?_
  refine call0 (c_within) rfl rfl ?_
  rintro r h' ⟨rfl, rfl⟩
  refine br_b (fun h1 => And.intro (Or.inl rfl) (And.intro (by rw [bI_f (fun z => h1 z.1.1)]) rfl)) (fun h1 => ?_)
  refine call0 (c_within) rfl rfl ?_
  rintro r h' ⟨rfl, rfl⟩
  refine br_b (fun h2 => And.intro (Or.inl rfl) (And.intro (by rw [bI_f (fun z => h2 z.1.2)]) rfl)) (fun h2 => ?_)
  refine call0 (c_within) rfl rfl ?_
  rintro r h' ⟨rfl, rfl⟩
  refine br_b (fun h3 => And.intro (Or.inl rfl) (And.intro (by rw [bI_f (fun z => h3 z.2)]) rfl)) (fun h3 => ?_)
  refine call0 (c_X7_tellMint h1) rfl rfl ?_
  rintro r h' ⟨rfl, rfl⟩
  exact And.intro (Or.inr rfl) (And.intro (by rw [bI_t ⟨⟨h1, h2⟩, h3⟩]) rfl)

theorem f_X11_feed {l : Launch} {HS_republic HS_now HS_kept HS_trial HS_clerk HS_crew HS_riddles HS_sheetReader HS_postReader HS_lawReader HS_seen HS_rules HS_spareRules : List (Option Nat)} {a b c d e : Int32} {k : Nat} (hk : k + 20 ≤ 260) : MetP l 2 yX11_feed cX11_feed 6 (some .int) 0 0 [.inr (some (.inl 0)), .inl a, .inl b, .inl c, .inl d, .inl e] [.inr (10, [.inr (some (.inl 1)), .inr (some (.inr HS_republic)), .inr (some (.inr HS_now)), .inr (some (.inr HS_kept)), .inr (some (.inr HS_trial)), .inr (some (.inr HS_clerk)), .inr (some (.inr HS_crew)), .inr (some (.inr HS_riddles)), .inr (some (.inr HS_sheetReader)), .inr (some (.inr HS_postReader)), .inr (some (.inr HS_lawReader)), .inr (some (.inr HS_seen)), .inr (some (.inr HS_rules)), .inr (some (.inr HS_spareRules)), .inl 0]), .inr (9, [.inr (some (.inl 2)), .inl (nI k)]), .inl (0, 260, (fun _ => 0))] (fun r h' => r = some (.inl (nI (k + 20))) ∧ h'.length = 3) := by
  refine m_X11_feed (Nat.le_of_ble_eq_true rfl) ?_
  refine call0 c_X10_hasRoom rfl rfl ?_
  rintro r h' ⟨rfl, rfl⟩
  refine br_b (fun h1 => absurd (by rw [show f_add (nI k) 20 = nI (k + 20) from nI_add k 20]; exact nI_le (b := 260) hk (by omega)) h1) (fun h1 => ?_)
  refine call0 (c_X10_takeWord (k := k + 0) (by omega)) rfl rfl ?_
  rintro r h' ⟨rfl, rfl⟩
  refine call0 (c_X10_takeWord (k := k + 4) (by omega)) rfl rfl ?_
  rintro r h' ⟨rfl, rfl⟩
  refine call0 (c_X10_takeWord (k := k + 8) (by omega)) rfl rfl ?_
  rintro r h' ⟨rfl, rfl⟩
  refine call0 (c_X10_takeWord (k := k + 12) (by omega)) rfl rfl ?_
  rintro r h' ⟨rfl, rfl⟩
  refine call0 (c_X10_takeWord (k := k + 16) (by omega)) rfl rfl ?_
  rintro r h' ⟨rfl, rfl⟩
  refine call0 (c_X10_size) rfl rfl ?_
  rintro r h' ⟨rfl, rfl⟩
  exact ⟨rfl, rfl⟩

theorem f_X11_law {l : Launch} {HS_republic HS_now HS_kept HS_trial HS_clerk HS_crew HS_riddles HS_sheetReader HS_postReader HS_seen HS_rules LR_into : List (Option Nat)} {a : Int32}  : MetP l 103 yX11_law cX11_law 4 (some .int) 0 0 [.inr (some (.inl 0)), .inl a] [.inr (10, [.inr (some (.inl 1)), .inr (some (.inr HS_republic)), .inr (some (.inr HS_now)), .inr (some (.inr HS_kept)), .inr (some (.inr HS_trial)), .inr (some (.inr HS_clerk)), .inr (some (.inr HS_crew)), .inr (some (.inr HS_riddles)), .inr (some (.inr HS_sheetReader)), .inr (some (.inr HS_postReader)), .inr (some (.inl 3)), .inr (some (.inr HS_seen)), .inr (some (.inr HS_rules)), .inr (some (.inl 4)), .inl 0]), .inr (9, [.inr (some (.inl 2)), .inl 0]), .inl (0, 260, (fun _ => 0)), .inr (3, [.inr (some (.inl 2)), .inl 0, .inl 0, .inl ((-1)), .inl 0, .inr (some (.inr LR_into))]), .inr (2, [.inr (some (.inl 5)), .inr (some (.inl 6)), .inr (some (.inl 7)), .inr (some (.inl 8)), .inr (some (.inl 9)), .inr (some (.inl 10)), .inl 0, .inl 0, .inl 0, .inl 0]), .inl (0, 16, (fun _ => 0)), .inl (0, 16, (fun _ => 0)), .inl (0, 16, (fun _ => 0)), .inl (0, 280, (fun _ => 0)), .inl (0, 280, (fun _ => 0)), .inl (0, 24, (fun _ => 0))] (fun r h' => r = some (.inl (-1)) ∧ h'.length = 11) := by
  refine m_X11_law (Nat.le_of_ble_eq_true rfl) ?_
  refine call0 (c_canGive) rfl rfl ?_
  rintro r h' ⟨rfl, rfl⟩
  exact br_b (fun _ => And.intro rfl rfl) (fun h1 => absurd h1 (cg_no (by decide)))

theorem f_X11_sheet {l : Launch} {HS_kept HS_trial HS_clerk HS_crew HS_riddles HS_postReader HS_lawReader HS_seen HS_rules HS_spareRules : List (Option Nat)} {a : Int32}  : MetP l 102 yX11_sheet cX11_sheet 3 (some .int) 0 0 [.inr (some (.inl 0)), .inl a] [.inr (10, [.inr (some (.inl 1)), .inr (some (.inl 6)), .inr (some (.inl 12)), .inr (some (.inr HS_kept)), .inr (some (.inr HS_trial)), .inr (some (.inr HS_clerk)), .inr (some (.inr HS_crew)), .inr (some (.inr HS_riddles)), .inr (some (.inl 3)), .inr (some (.inr HS_postReader)), .inr (some (.inr HS_lawReader)), .inr (some (.inr HS_seen)), .inr (some (.inr HS_rules)), .inr (some (.inr HS_spareRules)), .inl 0]), .inr (9, [.inr (some (.inl 2)), .inl 0]), .inl (0, 260, (fun _ => 0)), .inr (8, [.inr (some (.inl 2)), .inl 0, .inl 0, .inl ((-1)), .inl 0, .inr (some (.inl 4)), .inr (some (.inl 5)), .inl 0]), .inl (0, 48, (fun _ => 0)), .inl (0, 48, (fun _ => 0)), .inr (6, [.inr (some (.inl 7)), .inr (some (.inl 8)), .inr (some (.inl 9)), .inr (some (.inl 10)), .inr (some (.inl 11)), .inl 0, .inl 0, .inl 0]), .inl (0, 8, (fun _ => 0)), .inl (0, 8, (fun _ => 0)), .inl (2, 384, (fun _ => 0)), .inl (0, 48, (fun _ => 0)), .inl (0, 48, (fun _ => 0)), .inr (4, [.inr (some (.inl 13)), .inr (some (.inl 14)), .inr (some (.inl 15)), .inr (some (.inl 16)), .inl 0, .inl 0, .inl 0, .inl 1]), .inl (0, 8, (fun _ => 0)), .inl (0, 8, (fun _ => 0)), .inl (0, 48, (fillK (fun _ => 0) (-2) 48)), .inl (0, 48, (fun _ => 0))] (fun r h' => r = some (.inl (-1)) ∧ h'.length = 17) := by
  refine m_X11_sheet (Nat.le_of_ble_eq_true rfl) ?_
  refine call0 (c_canGive) rfl rfl ?_
  rintro r h' ⟨rfl, rfl⟩
  exact br_b (fun _ => And.intro rfl rfl) (fun h1 => absurd h1 (cg_no (by decide)))

theorem f_X11_post {l : Launch} {HS_kept HS_trial HS_clerk HS_crew HS_riddles HS_sheetReader HS_lawReader HS_seen HS_rules HS_spareRules : List (Option Nat)} {a : Int32}  : MetP l 6 yX11_post cX11_post 3 (some .int) 0 0 [.inr (some (.inl 0)), .inl a] [.inr (10, [.inr (some (.inl 1)), .inr (some (.inl 12)), .inr (some (.inl 7)), .inr (some (.inr HS_kept)), .inr (some (.inr HS_trial)), .inr (some (.inr HS_clerk)), .inr (some (.inr HS_crew)), .inr (some (.inr HS_riddles)), .inr (some (.inr HS_sheetReader)), .inr (some (.inl 3)), .inr (some (.inr HS_lawReader)), .inr (some (.inr HS_seen)), .inr (some (.inr HS_rules)), .inr (some (.inr HS_spareRules)), .inl 0]), .inr (9, [.inr (some (.inl 2)), .inl 0]), .inl (0, 260, (fun _ => 0)), .inr (5, [.inr (some (.inl 2)), .inl 0, .inl 0, .inl ((-1)), .inl 0, .inr (some (.inl 4)), .inr (some (.inl 5)), .inr (some (.inl 6)), .inl 0, .inl 0, .inl 0]), .inl (0, 20, (fun _ => 0)), .inl (0, 20, (fun _ => 0)), .inl (0, 20, (fun _ => 0)), .inr (4, [.inr (some (.inl 8)), .inr (some (.inl 9)), .inr (some (.inl 10)), .inr (some (.inl 11)), .inl 0, .inl 0, .inl 0, .inl 1]), .inl (0, 8, (fun _ => 0)), .inl (0, 8, (fun _ => 0)), .inl (0, 48, (fillK (fun _ => 0) (-2) 48)), .inl (0, 48, (fun _ => 0)), .inr (6, [.inr (some (.inl 13)), .inr (some (.inl 14)), .inr (some (.inl 15)), .inr (some (.inl 16)), .inr (some (.inl 17)), .inl 0, .inl 0, .inl 0]), .inl (0, 8, (fun _ => 0)), .inl (0, 8, (fun _ => 0)), .inl (2, 384, (fun _ => 0)), .inl (0, 48, (fun _ => 0)), .inl (0, 48, (fun _ => 0))] (fun r h' => r = some (.inl (-1)) ∧ h'.length = 18) := by
  refine m_X11_post (Nat.le_of_ble_eq_true rfl) ?_
  refine call0 (c_canGive) rfl rfl ?_
  rintro r h' ⟨rfl, rfl⟩
  exact br_b (fun _ => And.intro rfl rfl) (fun h1 => absurd h1 (cg_no (by decide)))

theorem f_X0_passDays {l : Launch} {Clk_acrossSum Clk_alongSum Clk_fallen Rep_toldMints Rep_walls Rep_stamps Law_rules Law_steps Law_waiting Law_refused Let_walled Let_drawState : Int32} {Clk_facts Clk_moreUsed Rep_mintX Rep_mintY Rep_wall Rep_mintOf Rep_grainsOf Law_kind Law_worthAt Law_testAt Law_step Law_beside Law_stack Let_place Let_paste Let_letter Let_used : Nat → Int32} {n k : Nat} (hn : k + n < 9999) : MetP l 6 yX0_passDays cX0_passDays 7 (some .int) 0 0 [.inr (some (.inl 0)), .inr (some (.inl 9)), .inr (some (.inl 16)), .inl (nI n)] [.inr (0, [.inr (some (.inl 3)), .inr (some (.inl 1)), .inr (some (.inl 2)), .inl Clk_acrossSum, .inl Clk_alongSum, .inl Clk_fallen]), .inl (0, 9, Clk_facts), .inl (0, 48, Clk_moreUsed), .inr (6, [.inr (some (.inl 4)), .inr (some (.inl 5)), .inr (some (.inl 6)), .inr (some (.inl 7)), .inr (some (.inl 8)), .inl Rep_toldMints, .inl Rep_walls, .inl Rep_stamps]), .inl (0, 8, Rep_mintX), .inl (0, 8, Rep_mintY), .inl (2, 384, Rep_wall), .inl (0, 48, Rep_mintOf), .inl (0, 48, Rep_grainsOf), .inr (2, [.inr (some (.inl 10)), .inr (some (.inl 11)), .inr (some (.inl 12)), .inr (some (.inl 13)), .inr (some (.inl 14)), .inr (some (.inl 15)), .inl Law_rules, .inl Law_steps, .inl Law_waiting, .inl Law_refused]), .inl (0, 16, Law_kind), .inl (0, 16, Law_worthAt), .inl (0, 16, Law_testAt), .inl (0, 280, Law_step), .inl (0, 280, Law_beside), .inl (0, 24, Law_stack), .inr (4, [.inr (some (.inl 17)), .inr (some (.inl 18)), .inr (some (.inl 19)), .inr (some (.inl 20)), .inl 0, .inl Let_walled, .inl (nI k), .inl Let_drawState]), .inl (0, 8, Let_place), .inl (0, 8, Let_paste), .inl (0, 48, Let_letter), .inl (0, 48, Let_used)] (fun r h' => r = some (.inl 0) ∧ h' = [.inr (0, [.inr (some (.inl 3)), .inr (some (.inl 1)), .inr (some (.inl 2)), .inl Clk_acrossSum, .inl Clk_alongSum, .inl 0]), .inl (0, 9, Clk_facts), .inl (0, 48, Clk_moreUsed), .inr (6, [.inr (some (.inl 4)), .inr (some (.inl 5)), .inr (some (.inl 6)), .inr (some (.inl 7)), .inr (some (.inl 8)), .inl Rep_toldMints, .inl Rep_walls, .inl Rep_stamps]), .inl (0, 8, Rep_mintX), .inl (0, 8, Rep_mintY), .inl (2, 384, Rep_wall), .inl (0, 48, Rep_mintOf), .inl (0, 48, Rep_grainsOf), .inr (2, [.inr (some (.inl 10)), .inr (some (.inl 11)), .inr (some (.inl 12)), .inr (some (.inl 13)), .inr (some (.inl 14)), .inr (some (.inl 15)), .inl Law_rules, .inl Law_steps, .inl Law_waiting, .inl Law_refused]), .inl (0, 16, Law_kind), .inl (0, 16, Law_worthAt), .inl (0, 16, Law_testAt), .inl (0, 280, Law_step), .inl (0, 280, Law_beside), .inl (0, 24, Law_stack), .inr (4, [.inr (some (.inl 17)), .inr (some (.inl 18)), .inr (some (.inl 19)), .inr (some (.inl 20)), .inl 0, .inl Let_walled, .inl (nI (k + n)), .inl Let_drawState]), .inl (0, 8, Let_place), .inl (0, 8, Let_paste), .inl (0, 48, Let_letter), .inl (0, 48, Let_used)]) := by
  refine m_X0_passDays (fun μ L st h => ∃ (i : Nat) (x : Option PV), i ≤ n ∧ (n - i) * 20 = μ ∧ L = [some (.inr (some (.inl 0))), some (.inr (some (.inl 9))), some (.inr (some (.inl 16))), some (.inl (nI n)), some (.inl 0), some (.inl (nI i)), x] ∧ st = [] ∧ h = [.inr (0, [.inr (some (.inl 3)), .inr (some (.inl 1)), .inr (some (.inl 2)), .inl Clk_acrossSum, .inl Clk_alongSum, .inl 0]), .inl (0, 9, Clk_facts), .inl (0, 48, Clk_moreUsed), .inr (6, [.inr (some (.inl 4)), .inr (some (.inl 5)), .inr (some (.inl 6)), .inr (some (.inl 7)), .inr (some (.inl 8)), .inl Rep_toldMints, .inl Rep_walls, .inl Rep_stamps]), .inl (0, 8, Rep_mintX), .inl (0, 8, Rep_mintY), .inl (2, 384, Rep_wall), .inl (0, 48, Rep_mintOf), .inl (0, 48, Rep_grainsOf), .inr (2, [.inr (some (.inl 10)), .inr (some (.inl 11)), .inr (some (.inl 12)), .inr (some (.inl 13)), .inr (some (.inl 14)), .inr (some (.inl 15)), .inl Law_rules, .inl Law_steps, .inl Law_waiting, .inl Law_refused]), .inl (0, 16, Law_kind), .inl (0, 16, Law_worthAt), .inl (0, 16, Law_testAt), .inl (0, 280, Law_step), .inl (0, 280, Law_beside), .inl (0, 24, Law_stack), .inr (4, [.inr (some (.inl 17)), .inr (some (.inl 18)), .inr (some (.inl 19)), .inr (some (.inl 20)), .inl 0, .inl Let_walled, .inl (nI (k + i)), .inl Let_drawState]), .inl (0, 8, Let_place), .inl (0, 8, Let_paste), .inl (0, 48, Let_letter), .inl (0, 48, Let_used)]) (fun μ L st h => ∃ (i j : Nat), i < n ∧ j ≤ 8 ∧ (n - i) * 20 - 1 - j = μ ∧ L = [some (.inr (some (.inl 0))), some (.inr (some (.inl 9))), some (.inr (some (.inl 16))), some (.inl (nI n)), some (.inl 0), some (.inl (nI i)), some (.inl (nI j))] ∧ st = [] ∧ h = [.inr (0, [.inr (some (.inl 3)), .inr (some (.inl 1)), .inr (some (.inl 2)), .inl Clk_acrossSum, .inl Clk_alongSum, .inl 0]), .inl (0, 9, Clk_facts), .inl (0, 48, Clk_moreUsed), .inr (6, [.inr (some (.inl 4)), .inr (some (.inl 5)), .inr (some (.inl 6)), .inr (some (.inl 7)), .inr (some (.inl 8)), .inl Rep_toldMints, .inl Rep_walls, .inl Rep_stamps]), .inl (0, 8, Rep_mintX), .inl (0, 8, Rep_mintY), .inl (2, 384, Rep_wall), .inl (0, 48, Rep_mintOf), .inl (0, 48, Rep_grainsOf), .inr (2, [.inr (some (.inl 10)), .inr (some (.inl 11)), .inr (some (.inl 12)), .inr (some (.inl 13)), .inr (some (.inl 14)), .inr (some (.inl 15)), .inl Law_rules, .inl Law_steps, .inl Law_waiting, .inl Law_refused]), .inl (0, 16, Law_kind), .inl (0, 16, Law_worthAt), .inl (0, 16, Law_testAt), .inl (0, 280, Law_step), .inl (0, 280, Law_beside), .inl (0, 24, Law_stack), .inr (4, [.inr (some (.inl 17)), .inr (some (.inl 18)), .inr (some (.inl 19)), .inr (some (.inl 20)), .inl 0, .inl Let_walled, .inl (nI (k + i)), .inl Let_drawState]), .inl (0, 8, Let_place), .inl (0, 8, Let_paste), .inl (0, 48, Let_letter), .inl (0, 48, Let_used)]) (Nat.le_of_ble_eq_true rfl) ?_ ?_ ?_
  · exact ⟨n * 20, 0, none, Nat.zero_le _, rfl, rfl, rfl, rfl⟩
  · rintro μ L st h ⟨i, x, hi, rfl, rfl, rfl, rfl⟩
    refine And.intro (fun (h1 : nI n ≤ nI i) => ?_) (fun (h1 : ¬ nI n ≤ nI i) => ?_)
    · have h2 := (nI_leI (by omega) (by omega)).mp h1
      have : i = n := by omega
      subst this
      exact ⟨rfl, rfl⟩
    · have h2 : i < n := Nat.not_le.mp fun z => h1 ((nI_leI (by omega) (by omega)).mpr z)
      refine call0 c_X4_day rfl rfl ?_
      rintro r h' ⟨rfl, rfl⟩
      refine And.intro (fun (h3 : (9999 : Int32) ≤ nI (k + i)) => ?_) (fun h3 => ?_)
      · exact absurd ((nI_leI (a := 9999) (by omega) (by omega)).mp h3) (by omega)
      · exact ⟨(n - i) * 20 - 1 - 0, by omega, i, 0, h2, by omega, rfl, rfl, rfl, rfl⟩
  · rintro μ L st h ⟨i, j, hi, hj, rfl, rfl, rfl, rfl⟩
    refine And.intro (fun (h1 : (8 : Int32) ≤ nI j) => ?_) (fun (h1 : ¬ (8 : Int32) ≤ nI j) => ?_)
    · have h2 := (nI_leI (a := 8) (by omega) (by omega)).mp h1
      refine call0 c_X4_endDay rfl rfl ?_
      rintro r h' ⟨rfl, rfl⟩
      exact ⟨(n - (i + 1)) * 20, by omega, i + 1, _, by omega, rfl, by rw [← nI_1 i], rfl, by rw [show f_add (nI (k + i)) 1 = nI (k + (i + 1)) from nI_1 (k + i)]⟩
    · have h2 : j < 8 := Nat.not_le.mp fun z => h1 ((nI_leI (a := 8) (by omega) (by omega)).mpr z)
      refine call0 c_X4_isTold rfl rfl ?_
      rintro r h' ⟨rfl, rfl⟩
      refine br_b (fun _ => ?_) (fun h3 => absurd h3 no_told)
      exact ⟨(n - i) * 20 - 1 - (j + 1), by omega, i, j + 1, hi, by omega, rfl, by rw [← nI_1 j], rfl, rfl⟩

theorem nI_of100 {n : Int32} (h : 1 ≤ n ∧ n ≤ 100) : ∃ k : Nat, k ≤ 100 ∧ n = nI k := nI_of2 (M := 100) (by decide) (fun z => by
  have h1 := Int32.le_iff_toInt_le.mp h.1
  have h2 := Int32.lt_iff_toInt_lt.mp z
  rw [Int32.toInt_zero] at h2
  have h3 : (1 : Int32).toInt = 1 := by decide
  omega) h.2

theorem f_X11_days {l : Launch} {HS_tape HS_kept HS_trial HS_crew HS_riddles HS_sheetReader HS_postReader HS_lawReader HS_seen HS_spareRules : List (Option Nat)} {a : Int32}  : MetP l 7 yX11_days cX11_days 2 (some .int) 0 0 [.inr (some (.inl 0)), .inl a] [.inr (10, [.inr (some (.inr HS_tape)), .inr (some (.inl 4)), .inr (some (.inl 17)), .inr (some (.inr HS_kept)), .inr (some (.inr HS_trial)), .inr (some (.inl 1)), .inr (some (.inr HS_crew)), .inr (some (.inr HS_riddles)), .inr (some (.inr HS_sheetReader)), .inr (some (.inr HS_postReader)), .inr (some (.inr HS_lawReader)), .inr (some (.inr HS_seen)), .inr (some (.inl 10)), .inr (some (.inr HS_spareRules)), .inl 0]), .inr (0, [.inr (some (.inl 4)), .inr (some (.inl 2)), .inr (some (.inl 3)), .inl 0, .inl 0, .inl 0]), .inl (0, 9, (fun _ => 0)), .inl (0, 48, (fun _ => 0)), .inr (6, [.inr (some (.inl 5)), .inr (some (.inl 6)), .inr (some (.inl 7)), .inr (some (.inl 8)), .inr (some (.inl 9)), .inl 0, .inl 0, .inl 0]), .inl (0, 8, (fun _ => 0)), .inl (0, 8, (fun _ => 0)), .inl (2, 384, (fun _ => 0)), .inl (0, 48, (fun _ => 0)), .inl (0, 48, (fun _ => 0)), .inr (2, [.inr (some (.inl 11)), .inr (some (.inl 12)), .inr (some (.inl 13)), .inr (some (.inl 14)), .inr (some (.inl 15)), .inr (some (.inl 16)), .inl 0, .inl 0, .inl 0, .inl 0]), .inl (0, 16, (fun _ => 0)), .inl (0, 16, (fun _ => 0)), .inl (0, 16, (fun _ => 0)), .inl (0, 280, (fun _ => 0)), .inl (0, 280, (fun _ => 0)), .inl (0, 24, (fun _ => 0)), .inr (4, [.inr (some (.inl 18)), .inr (some (.inl 19)), .inr (some (.inl 20)), .inr (some (.inl 21)), .inl 0, .inl 0, .inl 0, .inl 1]), .inl (0, 8, (fun _ => 0)), .inl (0, 8, (fun _ => 0)), .inl (0, 48, (fillK (fun _ => 0) (-2) 48)), .inl (0, 48, (fun _ => 0))] (fun r h' => r = some (.inl (bI (1 ≤ a ∧ a ≤ 100) - 1)) ∧ h'.length = 22) := by
  refine m_X11_days (Nat.le_of_ble_eq_true rfl) ?_
  refine call0 (c_within) rfl rfl ?_
  rintro r h' ⟨rfl, rfl⟩
  refine br_b (fun h1 => And.intro (by rw [bI_f h1]; rfl) rfl) (fun h1 => ?_)
  obtain ⟨n, hn, rfl⟩ := nI_of100 h1
  refine call0 (f_X0_passDays (k := 0) (by omega)) rfl rfl ?_
  rintro r h' ⟨rfl, rfl⟩
  exact And.intro (by rw [bI_t h1]; rfl) rfl

theorem f_X11_canBeTried {l : Launch} {HS_tape HS_kept HS_trial HS_clerk HS_crew HS_riddles HS_sheetReader HS_postReader HS_lawReader HS_seen HS_rules HS_spareRules : List (Option Nat)} {a : Int32}  : MetP l 2 yX11_canBeTried cX11_canBeTried 2 (some .boolean) 0 0 [.inr (some (.inl 0)), .inl a] [.inr (10, [.inr (some (.inr HS_tape)), .inr (some (.inl 6)), .inr (some (.inl 1)), .inr (some (.inr HS_kept)), .inr (some (.inr HS_trial)), .inr (some (.inr HS_clerk)), .inr (some (.inr HS_crew)), .inr (some (.inr HS_riddles)), .inr (some (.inr HS_sheetReader)), .inr (some (.inr HS_postReader)), .inr (some (.inr HS_lawReader)), .inr (some (.inr HS_seen)), .inr (some (.inr HS_rules)), .inr (some (.inr HS_spareRules)), .inl 0]), .inr (4, [.inr (some (.inl 2)), .inr (some (.inl 3)), .inr (some (.inl 4)), .inr (some (.inl 5)), .inl 0, .inl 0, .inl 0, .inl 1]), .inl (0, 8, (fun _ => 0)), .inl (0, 8, (fun _ => 0)), .inl (0, 48, (fillK (fun _ => 0) (-2) 48)), .inl (0, 48, (fun _ => 0)), .inr (6, [.inr (some (.inl 7)), .inr (some (.inl 8)), .inr (some (.inl 9)), .inr (some (.inl 10)), .inr (some (.inl 11)), .inl 0, .inl 0, .inl 0]), .inl (0, 8, (fun _ => 0)), .inl (0, 8, (fun _ => 0)), .inl (2, 384, (fun _ => 0)), .inl (0, 48, (fun _ => 0)), .inl (0, 48, (fun _ => 0))] (fun r h' => r = some (.inl (bI (0 ≤ a ∧ a ≤ 2))) ∧ h'.length = 12) := by
  refine m_X11_canBeTried (Nat.le_of_ble_eq_true rfl) ?_
  refine call0 (c_within) rfl rfl ?_
  rintro r h' ⟨rfl, rfl⟩
  refine br_b (fun h1 => ?_) (fun h1 => ?_)
  · refine call0 c_within rfl rfl ?_
    rintro r h' ⟨rfl, rfl⟩
    refine br_b (fun h2 => ?_) (fun h2 => ?_)
    · refine call0 c_within rfl rfl ?_
      rintro r h' ⟨rfl, rfl⟩
      refine br_b (fun h3 => ?_) (fun h3 => And.intro (Or.inr rfl) (And.intro (by rw [bI_t h3]) rfl))
      refine call0 c_X7_stamps rfl rfl ?_
      rintro r h' ⟨rfl, rfl⟩
      refine call0 c_within rfl rfl ?_
      rintro r h' ⟨rfl, rfl⟩
      refine br_b (fun h4 => And.intro (Or.inl rfl) (And.intro (by rw [bI_f h3]) rfl)) (fun h4 => ?_)
      exact absurd (Int32.le_trans h4.1 h4.2) (by decide)
    · refine call0 c_X4_isTold rfl rfl ?_
      rintro r h' ⟨rfl, rfl⟩
      exact And.intro (Or.inl (bI_f no_told)) (And.intro (by rw [bI_f no_told, bI_f (fun z => absurd (Int32.le_trans h2.1 z.2) (by decide))]) rfl)
  · refine call0 c_X4_isTold rfl rfl ?_
    rintro r h' ⟨rfl, rfl⟩
    exact And.intro (Or.inl (bI_f no_told)) (And.intro (by rw [bI_f no_told, bI_f (fun z => absurd (Int32.le_trans h1.1 z.2) (by decide))]) rfl)

theorem f_X11_letterIs {l : Launch} {HS_tape HS_kept HS_trial HS_clerk HS_crew HS_riddles HS_sheetReader HS_postReader HS_lawReader HS_seen HS_rules HS_spareRules : List (Option Nat)} {a b : Int32}  : MetP l 4 yX11_letterIs cX11_letterIs 3 (some .int) 0 0 [.inr (some (.inl 0)), .inl a, .inl b] [.inr (10, [.inr (some (.inr HS_tape)), .inr (some (.inl 6)), .inr (some (.inl 1)), .inr (some (.inr HS_kept)), .inr (some (.inr HS_trial)), .inr (some (.inr HS_clerk)), .inr (some (.inr HS_crew)), .inr (some (.inr HS_riddles)), .inr (some (.inr HS_sheetReader)), .inr (some (.inr HS_postReader)), .inr (some (.inr HS_lawReader)), .inr (some (.inr HS_seen)), .inr (some (.inr HS_rules)), .inr (some (.inr HS_spareRules)), .inl 0]), .inr (4, [.inr (some (.inl 2)), .inr (some (.inl 3)), .inr (some (.inl 4)), .inr (some (.inl 5)), .inl 0, .inl 0, .inl 0, .inl 1]), .inl (0, 8, (fun _ => 0)), .inl (0, 8, (fun _ => 0)), .inl (0, 48, (fillK (fun _ => 0) (-2) 48)), .inl (0, 48, (fun _ => 0)), .inr (6, [.inr (some (.inl 7)), .inr (some (.inl 8)), .inr (some (.inl 9)), .inr (some (.inl 10)), .inr (some (.inl 11)), .inl 0, .inl 0, .inl 0]), .inl (0, 8, (fun _ => 0)), .inl (0, 8, (fun _ => 0)), .inl (2, 384, (fun _ => 0)), .inl (0, 48, (fun _ => 0)), .inl (0, 48, (fun _ => 0))] (fun r h' => r = some (.inl (-1000)) ∧ h'.length = 12) := by
  refine m_X11_letterIs (Nat.le_of_ble_eq_true rfl) ?_
  refine call0 (c_X4_isTold) rfl rfl ?_
  rintro r h' ⟨rfl, rfl⟩
  exact br_b (fun _ => And.intro rfl rfl) (fun h1 => absurd h1 no_told)

theorem f_X11_stampIs {l : Launch} {HS_tape HS_kept HS_trial HS_clerk HS_crew HS_riddles HS_sheetReader HS_postReader HS_lawReader HS_seen HS_rules HS_spareRules : List (Option Nat)} {a b : Int32}  : MetP l 2 yX11_stampIs cX11_stampIs 3 (some .int) 0 0 [.inr (some (.inl 0)), .inl a, .inl b] [.inr (10, [.inr (some (.inr HS_tape)), .inr (some (.inl 1)), .inr (some (.inl 7)), .inr (some (.inr HS_kept)), .inr (some (.inr HS_trial)), .inr (some (.inr HS_clerk)), .inr (some (.inr HS_crew)), .inr (some (.inr HS_riddles)), .inr (some (.inr HS_sheetReader)), .inr (some (.inr HS_postReader)), .inr (some (.inr HS_lawReader)), .inr (some (.inr HS_seen)), .inr (some (.inr HS_rules)), .inr (some (.inr HS_spareRules)), .inl 0]), .inr (6, [.inr (some (.inl 2)), .inr (some (.inl 3)), .inr (some (.inl 4)), .inr (some (.inl 5)), .inr (some (.inl 6)), .inl 0, .inl 0, .inl 0]), .inl (0, 8, (fun _ => 0)), .inl (0, 8, (fun _ => 0)), .inl (2, 384, (fun _ => 0)), .inl (0, 48, (fun _ => 0)), .inl (0, 48, (fun _ => 0)), .inr (4, [.inr (some (.inl 8)), .inr (some (.inl 9)), .inr (some (.inl 10)), .inr (some (.inl 11)), .inl 0, .inl 0, .inl 0, .inl 1]), .inl (0, 8, (fun _ => 0)), .inl (0, 8, (fun _ => 0)), .inl (0, 48, (fillK (fun _ => 0) (-2) 48)), .inl (0, 48, (fun _ => 0))] (fun r h' => r = some (.inl (-1)) ∧ h'.length = 12) := by
  refine m_X11_stampIs (Nat.le_of_ble_eq_true rfl) ?_
  refine call0 (c_X7_stamps) rfl rfl ?_
  rintro r h' ⟨rfl, rfl⟩
  refine call0 (c_within) rfl rfl ?_
  rintro r h' ⟨rfl, rfl⟩
  exact br_b (fun _ => And.intro rfl rfl) (fun h1 => absurd h1 (fun z => absurd (Int32.le_trans z.1 z.2) (by decide)))

theorem f_X11_comes {l : Launch} {HS_tape HS_kept HS_crew HS_riddles HS_sheetReader HS_postReader HS_lawReader HS_seen HS_spareRules : List (Option Nat)} {a b c : Int32}  : MetP l 7 yX11_comes cX11_comes 5 (some .int) 0 0 [.inr (some (.inl 0)), .inl a, .inl b, .inl c] [.inr (10, [.inr (some (.inr HS_tape)), .inr (some (.inl 14)), .inr (some (.inl 1)), .inr (some (.inr HS_kept)), .inr (some (.inl 6)), .inr (some (.inl 11)), .inr (some (.inr HS_crew)), .inr (some (.inr HS_riddles)), .inr (some (.inr HS_sheetReader)), .inr (some (.inr HS_postReader)), .inr (some (.inr HS_lawReader)), .inr (some (.inr HS_seen)), .inr (some (.inl 20)), .inr (some (.inr HS_spareRules)), .inl 0]), .inr (4, [.inr (some (.inl 2)), .inr (some (.inl 3)), .inr (some (.inl 4)), .inr (some (.inl 5)), .inl 0, .inl 0, .inl 0, .inl 1]), .inl (0, 8, (fun _ => 0)), .inl (0, 8, (fun _ => 0)), .inl (0, 48, (fillK (fun _ => 0) (-2) 48)), .inl (0, 48, (fun _ => 0)), .inr (4, [.inr (some (.inl 7)), .inr (some (.inl 8)), .inr (some (.inl 9)), .inr (some (.inl 10)), .inl 0, .inl 0, .inl 0, .inl 1]), .inl (0, 8, (fun _ => 0)), .inl (0, 8, (fun _ => 0)), .inl (0, 48, (fillK (fun _ => 0) (-2) 48)), .inl (0, 48, (fun _ => 0)), .inr (0, [.inr (some (.inl 14)), .inr (some (.inl 12)), .inr (some (.inl 13)), .inl 0, .inl 0, .inl 0]), .inl (0, 9, (fun _ => 0)), .inl (0, 48, (fun _ => 0)), .inr (6, [.inr (some (.inl 15)), .inr (some (.inl 16)), .inr (some (.inl 17)), .inr (some (.inl 18)), .inr (some (.inl 19)), .inl 0, .inl 0, .inl 0]), .inl (0, 8, (fun _ => 0)), .inl (0, 8, (fun _ => 0)), .inl (2, 384, (fun _ => 0)), .inl (0, 48, (fun _ => 0)), .inl (0, 48, (fun _ => 0)), .inr (2, [.inr (some (.inl 21)), .inr (some (.inl 22)), .inr (some (.inl 23)), .inr (some (.inl 24)), .inr (some (.inl 25)), .inr (some (.inl 26)), .inl 0, .inl 0, .inl 0, .inl 0]), .inl (0, 16, (fun _ => 0)), .inl (0, 16, (fun _ => 0)), .inl (0, 16, (fun _ => 0)), .inl (0, 280, (fun _ => 0)), .inl (0, 280, (fun _ => 0)), .inl (0, 24, (fun _ => 0))] (fun r h' => r = some (.inl (-1)) ∧ h'.length = 27) := by
  refine m_X11_comes (fun _ _ _ _ => False) (Nat.le_of_ble_eq_true rfl) ?_ (fun _ _ _ _ h => h.elim)
  refine call0 (c_X4_isTold) rfl rfl ?_
  rintro r h' ⟨rfl, rfl⟩
  exact br_b (fun _ => And.intro rfl rfl) (fun h1 => absurd h1 no_told)

theorem f_X11_atRest {l : Launch} {HS_tape HS_kept HS_crew HS_riddles HS_sheetReader HS_postReader HS_lawReader HS_seen HS_spareRules : List (Option Nat)} {a b : Int32}  : MetP l 7 yX11_atRest cX11_atRest 6 (some .int) 0 0 [.inr (some (.inl 0)), .inl a, .inl b] [.inr (10, [.inr (some (.inr HS_tape)), .inr (some (.inl 14)), .inr (some (.inl 1)), .inr (some (.inr HS_kept)), .inr (some (.inl 6)), .inr (some (.inl 11)), .inr (some (.inr HS_crew)), .inr (some (.inr HS_riddles)), .inr (some (.inr HS_sheetReader)), .inr (some (.inr HS_postReader)), .inr (some (.inr HS_lawReader)), .inr (some (.inr HS_seen)), .inr (some (.inl 20)), .inr (some (.inr HS_spareRules)), .inl 0]), .inr (4, [.inr (some (.inl 2)), .inr (some (.inl 3)), .inr (some (.inl 4)), .inr (some (.inl 5)), .inl 0, .inl 0, .inl 0, .inl 1]), .inl (0, 8, (fun _ => 0)), .inl (0, 8, (fun _ => 0)), .inl (0, 48, (fillK (fun _ => 0) (-2) 48)), .inl (0, 48, (fun _ => 0)), .inr (4, [.inr (some (.inl 7)), .inr (some (.inl 8)), .inr (some (.inl 9)), .inr (some (.inl 10)), .inl 0, .inl 0, .inl 0, .inl 1]), .inl (0, 8, (fun _ => 0)), .inl (0, 8, (fun _ => 0)), .inl (0, 48, (fillK (fun _ => 0) (-2) 48)), .inl (0, 48, (fun _ => 0)), .inr (0, [.inr (some (.inl 14)), .inr (some (.inl 12)), .inr (some (.inl 13)), .inl 0, .inl 0, .inl 0]), .inl (0, 9, (fun _ => 0)), .inl (0, 48, (fun _ => 0)), .inr (6, [.inr (some (.inl 15)), .inr (some (.inl 16)), .inr (some (.inl 17)), .inr (some (.inl 18)), .inr (some (.inl 19)), .inl 0, .inl 0, .inl 0]), .inl (0, 8, (fun _ => 0)), .inl (0, 8, (fun _ => 0)), .inl (2, 384, (fun _ => 0)), .inl (0, 48, (fun _ => 0)), .inl (0, 48, (fun _ => 0)), .inr (2, [.inr (some (.inl 21)), .inr (some (.inl 22)), .inr (some (.inl 23)), .inr (some (.inl 24)), .inr (some (.inl 25)), .inr (some (.inl 26)), .inl 0, .inl 0, .inl 0, .inl 0]), .inl (0, 16, (fun _ => 0)), .inl (0, 16, (fun _ => 0)), .inl (0, 16, (fun _ => 0)), .inl (0, 280, (fun _ => 0)), .inl (0, 280, (fun _ => 0)), .inl (0, 24, (fun _ => 0))] (fun r h' => r = some (.inl (-1)) ∧ h'.length = 27) := by
  refine m_X11_atRest (fun _ _ _ _ => False) (Nat.le_of_ble_eq_true rfl) ?_ (fun _ _ _ _ h => h.elim)
  refine call0 (c_X4_isTold) rfl rfl ?_
  rintro r h' ⟨rfl, rfl⟩
  exact br_b (fun _ => And.intro rfl rfl) (fun h1 => absurd h1 no_told)

theorem f_X11_again {l : Launch} {HS_tape HS_kept HS_crew HS_riddles HS_sheetReader HS_postReader HS_lawReader HS_spareRules : List (Option Nat)} {a b : Int32}  : MetP l 7 yX11_again cX11_again 6 (some .int) 0 0 [.inr (some (.inl 0)), .inl a, .inl b] [.inr (10, [.inr (some (.inr HS_tape)), .inr (some (.inl 15)), .inr (some (.inl 2)), .inr (some (.inr HS_kept)), .inr (some (.inl 7)), .inr (some (.inl 12)), .inr (some (.inr HS_crew)), .inr (some (.inr HS_riddles)), .inr (some (.inr HS_sheetReader)), .inr (some (.inr HS_postReader)), .inr (some (.inr HS_lawReader)), .inr (some (.inl 1)), .inr (some (.inl 21)), .inr (some (.inr HS_spareRules)), .inl 0]), .inl (0, 384, (fun _ => 0)), .inr (4, [.inr (some (.inl 3)), .inr (some (.inl 4)), .inr (some (.inl 5)), .inr (some (.inl 6)), .inl 0, .inl 0, .inl 0, .inl 1]), .inl (0, 8, (fun _ => 0)), .inl (0, 8, (fun _ => 0)), .inl (0, 48, (fillK (fun _ => 0) (-2) 48)), .inl (0, 48, (fun _ => 0)), .inr (4, [.inr (some (.inl 8)), .inr (some (.inl 9)), .inr (some (.inl 10)), .inr (some (.inl 11)), .inl 0, .inl 0, .inl 0, .inl 1]), .inl (0, 8, (fun _ => 0)), .inl (0, 8, (fun _ => 0)), .inl (0, 48, (fillK (fun _ => 0) (-2) 48)), .inl (0, 48, (fun _ => 0)), .inr (0, [.inr (some (.inl 15)), .inr (some (.inl 13)), .inr (some (.inl 14)), .inl 0, .inl 0, .inl 0]), .inl (0, 9, (fun _ => 0)), .inl (0, 48, (fun _ => 0)), .inr (6, [.inr (some (.inl 16)), .inr (some (.inl 17)), .inr (some (.inl 18)), .inr (some (.inl 19)), .inr (some (.inl 20)), .inl 0, .inl 0, .inl 0]), .inl (0, 8, (fun _ => 0)), .inl (0, 8, (fun _ => 0)), .inl (2, 384, (fun _ => 0)), .inl (0, 48, (fun _ => 0)), .inl (0, 48, (fun _ => 0)), .inr (2, [.inr (some (.inl 22)), .inr (some (.inl 23)), .inr (some (.inl 24)), .inr (some (.inl 25)), .inr (some (.inl 26)), .inr (some (.inl 27)), .inl 0, .inl 0, .inl 0, .inl 0]), .inl (0, 16, (fun _ => 0)), .inl (0, 16, (fun _ => 0)), .inl (0, 16, (fun _ => 0)), .inl (0, 280, (fun _ => 0)), .inl (0, 280, (fun _ => 0)), .inl (0, 24, (fun _ => 0))] (fun r h' => r = some (.inl (-1)) ∧ h'.length = 28) := by
  refine m_X11_again (fun _ _ _ _ => False) (Nat.le_of_ble_eq_true rfl) ?_ (fun _ _ _ _ h => h.elim)
  refine call0 (c_X4_isTold) rfl rfl ?_
  rintro r h' ⟨rfl, rfl⟩
  exact br_b (fun _ => And.intro rfl rfl) (fun h1 => absurd h1 no_told)

theorem f_X11_home {l : Launch} {HS_tape HS_kept HS_trial HS_clerk HS_crew HS_riddles HS_sheetReader HS_postReader HS_lawReader HS_seen HS_rules HS_spareRules : List (Option Nat)} {a b : Int32}  : MetP l 4 yX11_home cX11_home 7 (some .int) 0 0 [.inr (some (.inl 0)), .inl a, .inl b] [.inr (10, [.inr (some (.inr HS_tape)), .inr (some (.inl 6)), .inr (some (.inl 1)), .inr (some (.inr HS_kept)), .inr (some (.inr HS_trial)), .inr (some (.inr HS_clerk)), .inr (some (.inr HS_crew)), .inr (some (.inr HS_riddles)), .inr (some (.inr HS_sheetReader)), .inr (some (.inr HS_postReader)), .inr (some (.inr HS_lawReader)), .inr (some (.inr HS_seen)), .inr (some (.inr HS_rules)), .inr (some (.inr HS_spareRules)), .inl 0]), .inr (4, [.inr (some (.inl 2)), .inr (some (.inl 3)), .inr (some (.inl 4)), .inr (some (.inl 5)), .inl 0, .inl 0, .inl 0, .inl 1]), .inl (0, 8, (fun _ => 0)), .inl (0, 8, (fun _ => 0)), .inl (0, 48, (fillK (fun _ => 0) (-2) 48)), .inl (0, 48, (fun _ => 0)), .inr (6, [.inr (some (.inl 7)), .inr (some (.inl 8)), .inr (some (.inl 9)), .inr (some (.inl 10)), .inr (some (.inl 11)), .inl 0, .inl 0, .inl 0]), .inl (0, 8, (fun _ => 0)), .inl (0, 8, (fun _ => 0)), .inl (2, 384, (fun _ => 0)), .inl (0, 48, (fun _ => 0)), .inl (0, 48, (fun _ => 0))] (fun r h' => r = some (.inl (-1)) ∧ h'.length = 12) := by
  refine m_X11_home (fun _ _ _ _ => False) (Nat.le_of_ble_eq_true rfl) ?_ (fun _ _ _ _ h => h.elim)
  refine call0 (c_X4_isTold) rfl rfl ?_
  rintro r h' ⟨rfl, rfl⟩
  exact br_b (fun _ => And.intro rfl rfl) (fun h1 => absurd h1 no_told)

theorem f_X11_meet {l : Launch} {HS_tape HS_kept HS_crew HS_riddles HS_sheetReader HS_postReader HS_lawReader HS_seen HS_spareRules : List (Option Nat)} {a b c : Int32}  : MetP l 7 yX11_meet cX11_meet 5 (some .int) 0 0 [.inr (some (.inl 0)), .inl a, .inl b, .inl c] [.inr (10, [.inr (some (.inr HS_tape)), .inr (some (.inl 14)), .inr (some (.inl 1)), .inr (some (.inr HS_kept)), .inr (some (.inl 6)), .inr (some (.inl 11)), .inr (some (.inr HS_crew)), .inr (some (.inr HS_riddles)), .inr (some (.inr HS_sheetReader)), .inr (some (.inr HS_postReader)), .inr (some (.inr HS_lawReader)), .inr (some (.inr HS_seen)), .inr (some (.inl 20)), .inr (some (.inr HS_spareRules)), .inl 0]), .inr (4, [.inr (some (.inl 2)), .inr (some (.inl 3)), .inr (some (.inl 4)), .inr (some (.inl 5)), .inl 0, .inl 0, .inl 0, .inl 1]), .inl (0, 8, (fun _ => 0)), .inl (0, 8, (fun _ => 0)), .inl (0, 48, (fillK (fun _ => 0) (-2) 48)), .inl (0, 48, (fun _ => 0)), .inr (4, [.inr (some (.inl 7)), .inr (some (.inl 8)), .inr (some (.inl 9)), .inr (some (.inl 10)), .inl 0, .inl 0, .inl 0, .inl 1]), .inl (0, 8, (fun _ => 0)), .inl (0, 8, (fun _ => 0)), .inl (0, 48, (fillK (fun _ => 0) (-2) 48)), .inl (0, 48, (fun _ => 0)), .inr (0, [.inr (some (.inl 14)), .inr (some (.inl 12)), .inr (some (.inl 13)), .inl 0, .inl 0, .inl 0]), .inl (0, 9, (fun _ => 0)), .inl (0, 48, (fun _ => 0)), .inr (6, [.inr (some (.inl 15)), .inr (some (.inl 16)), .inr (some (.inl 17)), .inr (some (.inl 18)), .inr (some (.inl 19)), .inl 0, .inl 0, .inl 0]), .inl (0, 8, (fun _ => 0)), .inl (0, 8, (fun _ => 0)), .inl (2, 384, (fun _ => 0)), .inl (0, 48, (fun _ => 0)), .inl (0, 48, (fun _ => 0)), .inr (2, [.inr (some (.inl 21)), .inr (some (.inl 22)), .inr (some (.inl 23)), .inr (some (.inl 24)), .inr (some (.inl 25)), .inr (some (.inl 26)), .inl 0, .inl 0, .inl 0, .inl 0]), .inl (0, 16, (fun _ => 0)), .inl (0, 16, (fun _ => 0)), .inl (0, 16, (fun _ => 0)), .inl (0, 280, (fun _ => 0)), .inl (0, 280, (fun _ => 0)), .inl (0, 24, (fun _ => 0))] (fun r h' => r = some (.inl (-1)) ∧ h'.length = 27) := by
  refine m_X11_meet (fun _ _ _ _ => False) (Nat.le_of_ble_eq_true rfl) ?_ (fun _ _ _ _ h => h.elim)
  refine call0 (c_X4_isTold) rfl rfl ?_
  rintro r h' ⟨rfl, rfl⟩
  exact br_b (fun _ => And.intro rfl rfl) (fun h1 => absurd h1 no_told)

