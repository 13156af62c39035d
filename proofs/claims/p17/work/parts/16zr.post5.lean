/-! ===== a post is carried out: LETTERS that are told, WALLS ===== -/
set_option maxRecDepth 100000 in
theorem c_X4_stick {l : Launch} {Let_told Let_walled Let_day Let_drawState : Int32} {Let_place Let_paste Let_letter Let_used : Nat → Int32}  {v : Nat} {x : Int32} (hv : v < 48) : MetP l 1 yX4_stick cX4_stick 3 none 0 0 [.inr (some (.inl 0)), .inl (nI v), .inl x] [.inr (4, [.inr (some (.inl 1)), .inr (some (.inl 2)), .inr (some (.inl 3)), .inr (some (.inl 4)), .inl Let_told, .inl Let_walled, .inl Let_day, .inl Let_drawState]), .inl (0, 8, Let_place), .inl (0, 8, Let_paste), .inl (0, 48, Let_letter), .inl (0, 48, Let_used)] (fun r h' => r = none ∧ h' = [.inr (4, [.inr (some (.inl 1)), .inr (some (.inl 2)), .inr (some (.inl 3)), .inr (some (.inl 4)), .inl Let_told, .inl Let_walled, .inl Let_day, .inl Let_drawState]), .inl (0, 8, Let_place), .inl (0, 8, Let_paste), .inl (0, 48, (upd Let_letter v x)), .inl (0, 48, Let_used)]) := by
  refine m_X4_stick (Nat.le_of_ble_eq_true rfl) ?_
  refine call0 (c_within) rfl rfl ?_
  rintro r h' ⟨rfl, rfl⟩
  refine br_b (fun z => absurd ((nI_bt (a := 0) (b := 47) (by omega) (by omega) (by omega)).mpr ⟨by omega, by omega⟩) z) (fun _ => ?_)
  refine And.intro (vp_in_nI (n := v) (by omega) (by omega)) ?_
  rw [nI_clamp (by omega)]
  exact ⟨rfl, rfl⟩
set_option maxRecDepth 100000 in
theorem c_X4_peel {l : Launch} {Let_told Let_walled Let_day Let_drawState : Int32} {Let_place Let_paste Let_letter Let_used : Nat → Int32}  {v : Nat} (hv : v < 48) : MetP l 2 yX4_peel cX4_peel 2 none 0 0 [.inr (some (.inl 0)), .inl (nI v)] [.inr (4, [.inr (some (.inl 1)), .inr (some (.inl 2)), .inr (some (.inl 3)), .inr (some (.inl 4)), .inl Let_told, .inl Let_walled, .inl Let_day, .inl Let_drawState]), .inl (0, 8, Let_place), .inl (0, 8, Let_paste), .inl (0, 48, Let_letter), .inl (0, 48, Let_used)] (fun r h' => r = none ∧ h' = [.inr (4, [.inr (some (.inl 1)), .inr (some (.inl 2)), .inr (some (.inl 3)), .inr (some (.inl 4)), .inl Let_told, .inl Let_walled, .inl Let_day, .inl Let_drawState]), .inl (0, 8, Let_place), .inl (0, 8, Let_paste), .inl (0, 48, (upd Let_letter v (-2))), .inl (0, 48, Let_used)]) := by
  refine m_X4_peel (Nat.le_of_ble_eq_true rfl) ?_
  refine call0 (c_X4_stick (v := v) hv) rfl rfl ?_
  rintro r h' ⟨rfl, rfl⟩
  exact ⟨rfl, rfl⟩
set_option maxRecDepth 100000 in
theorem c_X4_letterOf {l : Launch} {Let_told Let_walled Let_day Let_drawState : Int32} {Let_place Let_paste Let_letter Let_used : Nat → Int32}  {v : Nat} (hv : v < 48) : MetP l 1 yX4_letterOf cX4_letterOf 2 (some .int) 0 0 [.inr (some (.inl 0)), .inl (nI v)] [.inr (4, [.inr (some (.inl 1)), .inr (some (.inl 2)), .inr (some (.inl 3)), .inr (some (.inl 4)), .inl Let_told, .inl Let_walled, .inl Let_day, .inl Let_drawState]), .inl (0, 8, Let_place), .inl (0, 8, Let_paste), .inl (0, 48, Let_letter), .inl (0, 48, Let_used)] (fun r h' => r = some (.inl (Let_letter v)) ∧ h' = [.inr (4, [.inr (some (.inl 1)), .inr (some (.inl 2)), .inr (some (.inl 3)), .inr (some (.inl 4)), .inl Let_told, .inl Let_walled, .inl Let_day, .inl Let_drawState]), .inl (0, 8, Let_place), .inl (0, 8, Let_paste), .inl (0, 48, Let_letter), .inl (0, 48, Let_used)]) := by
  refine m_X4_letterOf (Nat.le_of_ble_eq_true rfl) ?_
  refine call0 (c_within) rfl rfl ?_
  rintro r h' ⟨rfl, rfl⟩
  refine br_b (fun z => absurd ((nI_bt (a := 0) (b := 47) (by omega) (by omega) (by omega)).mpr ⟨by omega, by omega⟩) z) (fun _ => ?_)
  refine And.intro (vp_in_nI (n := v) (by omega) (by omega)) ?_
  rw [nI_clamp (by omega)]
  exact ⟨rfl, rfl⟩
set_option maxRecDepth 100000 in
theorem c_X4_isOn {l : Launch} {Let_told Let_walled Let_day Let_drawState : Int32} {Let_place Let_paste Let_letter Let_used : Nat → Int32}  {v : Nat} {x : Int32} (hv : v < 48) : MetP l 2 yX4_isOn cX4_isOn 3 (some .boolean) 0 0 [.inr (some (.inl 0)), .inl (nI v), .inl x] [.inr (4, [.inr (some (.inl 1)), .inr (some (.inl 2)), .inr (some (.inl 3)), .inr (some (.inl 4)), .inl Let_told, .inl Let_walled, .inl Let_day, .inl Let_drawState]), .inl (0, 8, Let_place), .inl (0, 8, Let_paste), .inl (0, 48, Let_letter), .inl (0, 48, Let_used)] (fun r h' => r = some (.inl (bI (Let_letter v = x))) ∧ h' = [.inr (4, [.inr (some (.inl 1)), .inr (some (.inl 2)), .inr (some (.inl 3)), .inr (some (.inl 4)), .inl Let_told, .inl Let_walled, .inl Let_day, .inl Let_drawState]), .inl (0, 8, Let_place), .inl (0, 8, Let_paste), .inl (0, 48, Let_letter), .inl (0, 48, Let_used)]) := by
  refine m_X4_isOn (Nat.le_of_ble_eq_true rfl) ?_
  refine call0 (c_X4_letterOf (v := v) hv) rfl rfl ?_
  rintro r h' ⟨rfl, rfl⟩
  refine And.intro (fun (w : Let_letter v = x) => ?_) (fun (w : ¬ Let_letter v = x) => ?_)
  · exact And.intro (Or.inr rfl) (by rw [bI_t w]; exact ⟨rfl, rfl⟩)
  · exact And.intro (Or.inl rfl) (by rw [bI_f w]; exact ⟨rfl, rfl⟩)
set_option maxRecDepth 100000 in
theorem c_X4_putPaste {l : Launch} {Let_told Let_walled Let_day Let_drawState : Int32} {Let_place Let_paste Let_letter Let_used : Nat → Int32}  {t : Nat} {x : Int32} (ht : t ≤ 7) : MetP l 1 yX4_putPaste cX4_putPaste 3 none 0 0 [.inr (some (.inl 0)), .inl (nI t), .inl x] [.inr (4, [.inr (some (.inl 1)), .inr (some (.inl 2)), .inr (some (.inl 3)), .inr (some (.inl 4)), .inl Let_told, .inl Let_walled, .inl Let_day, .inl Let_drawState]), .inl (0, 8, Let_place), .inl (0, 8, Let_paste), .inl (0, 48, Let_letter), .inl (0, 48, Let_used)] (fun r h' => r = none ∧ h' = [.inr (4, [.inr (some (.inl 1)), .inr (some (.inl 2)), .inr (some (.inl 3)), .inr (some (.inl 4)), .inl Let_told, .inl Let_walled, .inl Let_day, .inl Let_drawState]), .inl (0, 8, Let_place), .inl (0, 8, (upd Let_paste t x)), .inl (0, 48, Let_letter), .inl (0, 48, Let_used)]) := by
  refine m_X4_putPaste (Nat.le_of_ble_eq_true rfl) ?_
  refine call0 (c_within) rfl rfl ?_
  rintro r h' ⟨rfl, rfl⟩
  refine br_b (fun z => absurd ((nI_bt (a := 0) (b := 7) (by omega) (by omega) (by omega)).mpr ⟨by omega, by omega⟩) z) (fun _ => ?_)
  refine And.intro (vp_in_nI (n := t) (by omega) (by omega)) ?_
  rw [nI_clamp (by omega)]
  exact ⟨rfl, rfl⟩
set_option maxRecDepth 100000 in
theorem c_X4_lay {l : Launch} {Let_walled Let_day Let_drawState : Int32} {Let_place Let_paste Let_letter Let_used : Nat → Int32}  {t T : Nat} {x : Int32} (ht : t ≤ 7) : MetP l 1 yX4_lay cX4_lay 3 none 0 0 [.inr (some (.inl 0)), .inl (nI t), .inl x] [.inr (4, [.inr (some (.inl 1)), .inr (some (.inl 2)), .inr (some (.inl 3)), .inr (some (.inl 4)), .inl ((nI T)), .inl Let_walled, .inl Let_day, .inl Let_drawState]), .inl (0, 8, Let_place), .inl (0, 8, Let_paste), .inl (0, 48, Let_letter), .inl (0, 48, Let_used)] (fun r h' => ∃ wd : Int32, r = none ∧ h' = [.inr (4, [.inr (some (.inl 1)), .inr (some (.inl 2)), .inr (some (.inl 3)), .inr (some (.inl 4)), .inl ((nI (T ||| 2 ^ t))), .inl wd, .inl Let_day, .inl Let_drawState]), .inl (0, 8, (upd Let_place t x)), .inl (0, 8, Let_paste), .inl (0, 48, Let_letter), .inl (0, 48, Let_used)]) := by
  refine m_X4_lay (Nat.le_of_ble_eq_true rfl) ?_
  refine call0 (c_within) rfl rfl ?_
  rintro r h' ⟨rfl, rfl⟩
  refine br_b (fun z => absurd ((nI_bt (a := 0) (b := 7) (by omega) (by omega) (by omega)).mpr ⟨by omega, by omega⟩) z) (fun _ => ?_)
  refine And.intro (vp_in_nI (n := t) (by omega) (by omega)) ?_
  rw [nI_clamp (by omega)]
  exact ⟨_, rfl, by rw [← td_or (T := T) (l := t) (by omega)] <;> rfl⟩
set_option maxRecDepth 100000 in
theorem c_X5_carryOutOrder {l : Launch} {Let_walled Let_day Let_drawState : Int32} {Let_place Let_paste Let_letter Let_used : Nat → Int32}  {o : Ord} {c T : Nat} (ho : okO c o) (hc : c ≤ 48) (h35 : ¬ o.1 = 35) : MetP l 3 yX5_carryOutOrder cX5_carryOutOrder 4 none 0 0 [.inr (some (.inl 0)), .inl (nI o.1), .inl (nI o.2.1), .inl (nI o.2.2)] [.inr (4, [.inr (some (.inl 1)), .inr (some (.inl 2)), .inr (some (.inl 3)), .inr (some (.inl 4)), .inl ((nI T)), .inl Let_walled, .inl Let_day, .inl Let_drawState]), .inl (0, 8, Let_place), .inl (0, 8, Let_paste), .inl (0, 48, Let_letter), .inl (0, 48, Let_used)] (fun r h' => ∃ (pl pa le us : Nat → Int32) (wd : Int32), r = none ∧ h' = [.inr (4, [.inr (some (.inl 1)), .inr (some (.inl 2)), .inr (some (.inl 3)), .inr (some (.inl 4)), .inl ((nI (tdO T o))), .inl wd, .inl Let_day, .inl Let_drawState]), .inl (0, 8, pl), .inl (0, 8, pa), .inl (0, 48, le), .inl (0, 48, us)]) := by
  obtain ⟨s, t, v⟩ := o
  obtain ⟨h1, h2, h3⟩ := ho
  have h1 : t ≤ 7 := h1
  have h2 : v ≤ 383 := h2
  have h3 : s = 35 ∨ s = 64 ∨ ((s = 43 ∨ s = 45) ∧ v < c) ∨ (s = 61 ∧ v ≤ 99) := h3
  have h35 : ¬ s = 35 := h35
  refine m_X5_carryOutOrder (Nat.le_of_ble_eq_true rfl) ?_
  rcases h3 with h | rfl | ⟨rfl | rfl, hv⟩ | ⟨rfl, hv⟩
  · exact absurd h h35
  · refine And.intro (fun z => absurd z (by show ¬ (nI 64 = nI 43); decide)) (fun _ => ?_)
    refine And.intro (fun z => absurd z (by show ¬ (nI 64 = nI 45); decide)) (fun _ => ?_)
    refine And.intro (fun _ => ?_) (fun z => absurd rfl z)
    refine call0 (c_X4_lay (t := t) (T := T) h1) rfl rfl ?_
    rintro r h' ⟨wd, rfl, rfl⟩
    exact ⟨_, _, _, _, wd, rfl, rfl⟩
  · refine And.intro (fun _ => ?_) (fun z => absurd rfl z)
    refine call0 (c_X4_stick (v := v) (by omega)) rfl rfl ?_
    rintro r h' ⟨rfl, rfl⟩
    exact ⟨_, _, _, _, _, rfl, rfl⟩
  · refine And.intro (fun z => absurd z (by show ¬ (nI 45 = nI 43); decide)) (fun _ => ?_)
    refine And.intro (fun _ => ?_) (fun z => absurd rfl z)
    refine call0 (c_X4_isOn (v := v) (by omega)) rfl rfl ?_
    rintro r h' ⟨rfl, rfl⟩
    refine br_b (fun _ => ?_) (fun _ => ?_)
    · exact ⟨_, _, _, _, _, rfl, rfl⟩
    · refine call0 (c_X4_peel (v := v) (by omega)) rfl rfl ?_
      rintro r h' ⟨rfl, rfl⟩
      exact ⟨_, _, _, _, _, rfl, rfl⟩
  · refine And.intro (fun z => absurd z (by show ¬ (nI 61 = nI 43); decide)) (fun _ => ?_)
    refine And.intro (fun z => absurd z (by show ¬ (nI 61 = nI 45); decide)) (fun _ => ?_)
    refine And.intro (fun z => absurd z (by show ¬ (nI 61 = nI 64); decide)) (fun _ => ?_)
    refine call0 (c_X4_putPaste (t := t) h1) rfl rfl ?_
    rintro r h' ⟨rfl, rfl⟩
    exact ⟨_, _, _, _, _, rfl, rfl⟩
/-- a wall more or a wall less -/
def tgV (x : Int32) : Int32 := if x = 0 then 1 else 0
def wlO (f : Nat → Int32) (o : Ord) : Nat → Int32 := if o.1 = 35 then upd f o.2.2 (tgV (f o.2.2)) else f
def wlL (f : Nat → Int32) (os : List Ord) : Nat → Int32 := os.foldl wlO f
set_option maxRecDepth 100000 in
theorem c_X7_turnWall {l : Launch} {Rep_toldMints Rep_walls Rep_stamps : Int32} {Rep_mintX Rep_mintY Rep_wall Rep_mintOf Rep_grainsOf : Nat → Int32}  {v : Nat} (hv : v ≤ 383) : MetP l 2 yX7_turnWall cX7_turnWall 2 none 0 0 [.inr (some (.inl 0)), .inl (nI v)] [.inr (6, [.inr (some (.inl 1)), .inr (some (.inl 2)), .inr (some (.inl 3)), .inr (some (.inl 4)), .inr (some (.inl 5)), .inl Rep_toldMints, .inl Rep_walls, .inl Rep_stamps]), .inl (0, 8, Rep_mintX), .inl (0, 8, Rep_mintY), .inl (2, 384, Rep_wall), .inl (0, 48, Rep_mintOf), .inl (0, 48, Rep_grainsOf)] (fun r h' => ∃ ws : Int32, r = none ∧ h' = [.inr (6, [.inr (some (.inl 1)), .inr (some (.inl 2)), .inr (some (.inl 3)), .inr (some (.inl 4)), .inr (some (.inl 5)), .inl Rep_toldMints, .inl ws, .inl Rep_stamps]), .inl (0, 8, Rep_mintX), .inl (0, 8, Rep_mintY), .inl (2, 384, (upd Rep_wall v (tgV (Rep_wall v)))), .inl (0, 48, Rep_mintOf), .inl (0, 48, Rep_grainsOf)]) := by
  refine m_X7_turnWall (Nat.le_of_ble_eq_true rfl) ?_
  refine call0 (c_isPlace) rfl rfl ?_
  rintro r h' ⟨rfl, rfl⟩
  refine br_b (fun z => absurd ((nI_bt (a := 0) (b := 383) (by omega) (by omega) (by omega)).mpr ⟨by omega, hv⟩) z) (fun _ => ?_)
  refine And.intro (vp_in_nI (n := v) (by omega) (by omega)) ?_
  rw [nI_clamp (by omega)]
  have n0 : f_nar 2 0 = 0 := by decide
  have n1 : f_nar 2 1 = 1 := by decide
  refine And.intro (fun (w : Rep_wall v = 0) => ?_) (fun (w : ¬ Rep_wall v = 0) => ?_)
  · have e : tgV (Rep_wall v) = 1 := if_pos w
    refine And.intro (vp_in_nI (n := v) (by omega) (by omega)) ?_
    refine And.intro (vp_in_nI (n := v) (by omega) (by omega)) ?_
    refine And.intro (fun _ => ?_) (fun _ => ?_)
    · exact ⟨_, rfl, by rw [e, nI_clamp (by omega), n1]⟩
    · exact ⟨_, rfl, by rw [e, nI_clamp (by omega), n1]⟩
  · have e : tgV (Rep_wall v) = 0 := if_neg w
    refine And.intro (vp_in_nI (n := v) (by omega) (by omega)) ?_
    refine And.intro (vp_in_nI (n := v) (by omega) (by omega)) ?_
    refine And.intro (fun _ => ?_) (fun _ => ?_)
    · exact ⟨_, rfl, by rw [e, nI_clamp (by omega), n0]⟩
    · exact ⟨_, rfl, by rw [e, nI_clamp (by omega), n0]⟩
theorem tk_1 {os : List Ord} {j : Nat} {o : Ord} (e : os[j]? = some o) : os.take (j + 1) = os.take j ++ [o] := by
  rw [List.take_succ, e]
  rfl
theorem tdL_1 {T : Nat} {a : List Ord} {o : Ord} : tdL T (a ++ [o]) = tdO (tdL T a) o := by
  unfold tdL
  rw [List.foldl_append]
  rfl
theorem wlL_1 {f : Nat → Int32} {a : List Ord} {o : Ord} : wlL f (a ++ [o]) = wlO (wlL f a) o := by
  unfold wlL
  rw [List.foldl_append]
  rfl
set_option maxRecDepth 100000 in
theorem c_X5_carryOut {l : Launch} {PR_text : List (Option Nat)} {PR_end PR_at PR_ahead PR_fault PR_told PR_stamps Let_walled Let_day Let_drawState Rep_toldMints Rep_walls Rep_stamps : Int32} {PR_sign PR_letter PR_number Let_place Let_paste Let_letter Let_used Rep_mintX Rep_mintY Rep_wall Rep_mintOf Rep_grainsOf : Nat → Int32}  {os : List Ord} {c T k : Nat} (hk : k ≤ 20) (hl : os.length = k) (hr : rwO PR_sign PR_letter PR_number os) (ho : ∀ o ∈ os, okO c o) (hc : c ≤ 48) : MetP l 4 yX5_carryOut cX5_carryOut 4 none 0 0 [.inr (some (.inl 0)), .inr (some (.inl 4)), .inr (some (.inl 9))] [.inr (5, [.inr (some (.inr PR_text)), .inl PR_end, .inl PR_at, .inl PR_ahead, .inl PR_fault, .inr (some (.inl 1)), .inr (some (.inl 2)), .inr (some (.inl 3)), .inl ((nI k)), .inl PR_told, .inl PR_stamps]), .inl (0, 20, PR_sign), .inl (0, 20, PR_letter), .inl (0, 20, PR_number), .inr (4, [.inr (some (.inl 5)), .inr (some (.inl 6)), .inr (some (.inl 7)), .inr (some (.inl 8)), .inl ((nI T)), .inl Let_walled, .inl Let_day, .inl Let_drawState]), .inl (0, 8, Let_place), .inl (0, 8, Let_paste), .inl (0, 48, Let_letter), .inl (0, 48, Let_used), .inr (6, [.inr (some (.inl 10)), .inr (some (.inl 11)), .inr (some (.inl 12)), .inr (some (.inl 13)), .inr (some (.inl 14)), .inl Rep_toldMints, .inl Rep_walls, .inl Rep_stamps]), .inl (0, 8, Rep_mintX), .inl (0, 8, Rep_mintY), .inl (2, 384, Rep_wall), .inl (0, 48, Rep_mintOf), .inl (0, 48, Rep_grainsOf)] (fun r h' => ∃ (pl pa le us : Nat → Int32) (wd ws : Int32), r = none ∧ h' = [.inr (5, [.inr (some (.inr PR_text)), .inl PR_end, .inl PR_at, .inl PR_ahead, .inl PR_fault, .inr (some (.inl 1)), .inr (some (.inl 2)), .inr (some (.inl 3)), .inl ((nI k)), .inl PR_told, .inl PR_stamps]), .inl (0, 20, PR_sign), .inl (0, 20, PR_letter), .inl (0, 20, PR_number), .inr (4, [.inr (some (.inl 5)), .inr (some (.inl 6)), .inr (some (.inl 7)), .inr (some (.inl 8)), .inl ((nI (tdL T os))), .inl wd, .inl Let_day, .inl Let_drawState]), .inl (0, 8, pl), .inl (0, 8, pa), .inl (0, 48, le), .inl (0, 48, us), .inr (6, [.inr (some (.inl 10)), .inr (some (.inl 11)), .inr (some (.inl 12)), .inr (some (.inl 13)), .inr (some (.inl 14)), .inl Rep_toldMints, .inl ws, .inl Rep_stamps]), .inl (0, 8, Rep_mintX), .inl (0, 8, Rep_mintY), .inl (2, 384, (wlL Rep_wall os)), .inl (0, 48, Rep_mintOf), .inl (0, 48, Rep_grainsOf)]) := by
  refine m_X5_carryOut (fun μ L st h => ∃ (j : Nat) (pl pa le us : Nat → Int32) (wd ws : Int32), μ = k - j ∧ j ≤ k ∧ L = [some (.inr (some (.inl 0))), some (.inr (some (.inl 4))), some (.inr (some (.inl 9))), some (.inl (nI j))] ∧ st = [] ∧ h = [.inr (5, [.inr (some (.inr PR_text)), .inl PR_end, .inl PR_at, .inl PR_ahead, .inl PR_fault, .inr (some (.inl 1)), .inr (some (.inl 2)), .inr (some (.inl 3)), .inl ((nI k)), .inl PR_told, .inl PR_stamps]), .inl (0, 20, PR_sign), .inl (0, 20, PR_letter), .inl (0, 20, PR_number), .inr (4, [.inr (some (.inl 5)), .inr (some (.inl 6)), .inr (some (.inl 7)), .inr (some (.inl 8)), .inl ((nI (tdL T (os.take j)))), .inl wd, .inl Let_day, .inl Let_drawState]), .inl (0, 8, pl), .inl (0, 8, pa), .inl (0, 48, le), .inl (0, 48, us), .inr (6, [.inr (some (.inl 10)), .inr (some (.inl 11)), .inr (some (.inl 12)), .inr (some (.inl 13)), .inr (some (.inl 14)), .inl Rep_toldMints, .inl ws, .inl Rep_stamps]), .inl (0, 8, Rep_mintX), .inl (0, 8, Rep_mintY), .inl (2, 384, (wlL Rep_wall (os.take j))), .inl (0, 48, Rep_mintOf), .inl (0, 48, Rep_grainsOf)]) (Nat.le_of_ble_eq_true rfl) ?_ ?_
  · exact ⟨_, 0, Let_place, Let_paste, Let_letter, Let_used, Let_walled, Rep_walls, rfl, by omega, rfl, rfl, rfl⟩
  · rintro μ L st h ⟨j, pl, pa, le, us, wd, ws, hμ, h1, rfl, rfl, rfl⟩
    refine And.intro (fun q1 => ?_) (fun q1 => ?_)
    · have q1 := (nI_leI (by omega) (by omega)).mp q1
      obtain rfl : j = k := by omega
      exact ⟨pl, pa, le, us, wd, ws, rfl, by rw [← hl, List.take_length]⟩
    · have q1 : j < k := Nat.lt_of_not_le fun z => q1 ((nI_leI (by omega) (by omega)).mpr z)
      refine And.intro (fun z => absurd ((nI_leI (a := 20) (by omega) (by omega)).mp z) (by omega)) (fun _ => ?_)
      obtain ⟨o, eo⟩ : ∃ o, os[j]? = some o := ⟨os[j]'(by omega), List.getElem?_eq_getElem (by omega)⟩
      obtain ⟨r1, r2, r3⟩ := hr j o eo
      have ok := ho o (List.mem_of_getElem? eo)
      have et := tk_1 eo
      refine And.intro (vp_in_nI (n := j) (by omega) (by omega)) ?_
      rw [nI_clamp (by omega), r1]
      have s9 : o.1 < 100 := by rcases ok.2.2 with z | z | ⟨z | z, _⟩ | ⟨z, _⟩ <;> omega
      refine And.intro (fun w => ?_) (fun w => ?_)
      · have w := (nI_eq (b := 35) (by omega) (by omega)).mp w
        have e1 : tdL T (os.take (j + 1)) = tdL T (os.take j) := by
          rw [et, tdL_1]
          exact if_neg (by omega)
        have e2 : wlL Rep_wall (os.take (j + 1)) = upd (wlL Rep_wall (os.take j)) o.2.2 (tgV (wlL Rep_wall (os.take j) o.2.2)) := by
          rw [et, wlL_1]
          exact if_pos w
        refine And.intro (vp_in_nI (n := j) (by omega) (by omega)) ?_
        rw [nI_clamp (by omega), r3]
        refine call0 (c_X7_turnWall (v := o.2.2) ok.2.1) rfl rfl ?_
        rintro r h' ⟨ws', rfl, rfl⟩
        exact ⟨k - (j + 1), by omega, j + 1, pl, pa, le, us, wd, ws', rfl, by omega, by rw [← nI_1 j] <;> rfl, rfl, by rw [e1, e2]⟩
      · have w : ¬ o.1 = 35 := fun z => w ((nI_eq (b := 35) (by omega) (by omega)).mpr z)
        have e1 : tdL T (os.take (j + 1)) = tdO (tdL T (os.take j)) o := by rw [et, tdL_1]
        have e2 : wlL Rep_wall (os.take (j + 1)) = wlL Rep_wall (os.take j) := by
          rw [et, wlL_1]
          exact if_neg w
        refine And.intro (vp_in_nI (n := j) (by omega) (by omega)) ?_
        rw [nI_clamp (by omega), r1]
        refine And.intro (vp_in_nI (n := j) (by omega) (by omega)) ?_
        rw [nI_clamp (by omega), r2]
        refine And.intro (vp_in_nI (n := j) (by omega) (by omega)) ?_
        rw [nI_clamp (by omega), r3]
        refine call0 (c_X5_carryOutOrder (o := o) (c := c) (T := tdL T (os.take j)) ok hc w) rfl rfl ?_
        rintro r h' ⟨pl', pa', le', us', wd', rfl, rfl⟩
        exact ⟨k - (j + 1), by omega, j + 1, pl', pa', le', us', wd', ws, rfl, by omega, by rw [← nI_1 j] <;> rfl, rfl, by rw [e1, e2]⟩
/-- what a post answers -/
def poY (b : Nat → Nat) (n c T : Nat) : Int32 := match psR b n c T with
  | .inl (g, a) => ftV g a
  | .inr os => nI os.length
/-- what it leaves: LETTERS that are told, WALLS -/
def poT (b : Nat → Nat) (n c T : Nat) : Nat := match psR b n c T with
  | .inl _ => T
  | .inr os => tdL T os
def poW (b : Nat → Nat) (n c T : Nat) (f : Nat → Int32) : Nat → Int32 := match psR b n c T with
  | .inl _ => f
  | .inr os => wlL f os
set_option maxRecDepth 100000 in
theorem c_X4_toldBits {l : Launch} {Let_told Let_walled Let_day Let_drawState : Int32} {Let_place Let_paste Let_letter Let_used : Nat → Int32}  : MetP l 0 yX4_toldBits cX4_toldBits 1 (some .int) 0 0 [.inr (some (.inl 0))] [.inr (4, [.inr (some (.inl 1)), .inr (some (.inl 2)), .inr (some (.inl 3)), .inr (some (.inl 4)), .inl Let_told, .inl Let_walled, .inl Let_day, .inl Let_drawState]), .inl (0, 8, Let_place), .inl (0, 8, Let_paste), .inl (0, 48, Let_letter), .inl (0, 48, Let_used)] (fun r h' => r = some (.inl Let_told) ∧ h' = [.inr (4, [.inr (some (.inl 1)), .inr (some (.inl 2)), .inr (some (.inl 3)), .inr (some (.inl 4)), .inl Let_told, .inl Let_walled, .inl Let_day, .inl Let_drawState]), .inl (0, 8, Let_place), .inl (0, 8, Let_paste), .inl (0, 48, Let_letter), .inl (0, 48, Let_used)]) := by
  refine m_X4_toldBits (Nat.le_of_ble_eq_true rfl) ?_
  exact ⟨rfl, rfl⟩
set_option maxRecDepth 100000 in
theorem c_X7_stamps {l : Launch} {Rep_toldMints Rep_walls Rep_stamps : Int32} {Rep_mintX Rep_mintY Rep_wall Rep_mintOf Rep_grainsOf : Nat → Int32}  : MetP l 0 yX7_stamps cX7_stamps 1 (some .int) 0 0 [.inr (some (.inl 0))] [.inr (6, [.inr (some (.inl 1)), .inr (some (.inl 2)), .inr (some (.inl 3)), .inr (some (.inl 4)), .inr (some (.inl 5)), .inl Rep_toldMints, .inl Rep_walls, .inl Rep_stamps]), .inl (0, 8, Rep_mintX), .inl (0, 8, Rep_mintY), .inl (2, 384, Rep_wall), .inl (0, 48, Rep_mintOf), .inl (0, 48, Rep_grainsOf)] (fun r h' => r = some (.inl Rep_stamps) ∧ h' = [.inr (6, [.inr (some (.inl 1)), .inr (some (.inl 2)), .inr (some (.inl 3)), .inr (some (.inl 4)), .inr (some (.inl 5)), .inl Rep_toldMints, .inl Rep_walls, .inl Rep_stamps]), .inl (0, 8, Rep_mintX), .inl (0, 8, Rep_mintY), .inl (2, 384, Rep_wall), .inl (0, 48, Rep_mintOf), .inl (0, 48, Rep_grainsOf)]) := by
  refine m_X7_stamps (Nat.le_of_ble_eq_true rfl) ?_
  exact ⟨rfl, rfl⟩
set_option maxRecDepth 100000 in
theorem c_X11_post {l : Launch} {HS_kept HS_trial HS_clerk HS_crew HS_riddles HS_sheetReader HS_lawReader HS_seen HS_rules HS_spareRules : List (Option Nat)} {HS_wasKept PR_end PR_at PR_ahead PR_fault PR_lines PR_told PR_stamps Now_walled Now_day Now_drawState Rep_toldMints Rep_walls : Int32} {Tape_bytes PR_sign PR_letter PR_number Now_place Now_paste Now_letter Now_used Rep_mintX Rep_mintY Rep_wall Rep_mintOf Rep_grainsOf : Nat → Int32}  {o : Nat → Nat} {n s c T : Nat} (hn1 : 1 ≤ n) (hn : n ≤ 120) (hs : s ≤ 260) (hns : n ≤ s) (hc : c ≤ 48) (hb : txB Tape_bytes o n) : MetP l 6 yX11_post cX11_post 3 (some .int) 0 0 [.inr (some (.inl 0)), .inl (nI n)] [.inr (10, [.inr (some (.inl 1)), .inr (some (.inl 12)), .inr (some (.inl 7)), .inr (some (.inr HS_kept)), .inr (some (.inr HS_trial)), .inr (some (.inr HS_clerk)), .inr (some (.inr HS_crew)), .inr (some (.inr HS_riddles)), .inr (some (.inr HS_sheetReader)), .inr (some (.inl 3)), .inr (some (.inr HS_lawReader)), .inr (some (.inr HS_seen)), .inr (some (.inr HS_rules)), .inr (some (.inr HS_spareRules)), .inl HS_wasKept]), .inr (9, [.inr (some (.inl 2)), .inl ((nI s))]), .inl (0, 260, Tape_bytes), .inr (5, [.inr (some (.inl 2)), .inl PR_end, .inl PR_at, .inl PR_ahead, .inl PR_fault, .inr (some (.inl 4)), .inr (some (.inl 5)), .inr (some (.inl 6)), .inl PR_lines, .inl PR_told, .inl PR_stamps]), .inl (0, 20, PR_sign), .inl (0, 20, PR_letter), .inl (0, 20, PR_number), .inr (4, [.inr (some (.inl 8)), .inr (some (.inl 9)), .inr (some (.inl 10)), .inr (some (.inl 11)), .inl ((nI T)), .inl Now_walled, .inl Now_day, .inl Now_drawState]), .inl (0, 8, Now_place), .inl (0, 8, Now_paste), .inl (0, 48, Now_letter), .inl (0, 48, Now_used), .inr (6, [.inr (some (.inl 13)), .inr (some (.inl 14)), .inr (some (.inl 15)), .inr (some (.inl 16)), .inr (some (.inl 17)), .inl Rep_toldMints, .inl Rep_walls, .inl ((nI c))]), .inl (0, 8, Rep_mintX), .inl (0, 8, Rep_mintY), .inl (2, 384, Rep_wall), .inl (0, 48, Rep_mintOf), .inl (0, 48, Rep_grainsOf)] (fun r h' => ∃ (at_ ah fa td wd ws : Int32) (k : Nat) (sg lt nu pl pa le us : Nat → Int32), k ≤ 20 ∧ r = some (.inl (poY o n c T)) ∧ h' = [.inr (10, [.inr (some (.inl 1)), .inr (some (.inl 12)), .inr (some (.inl 7)), .inr (some (.inr HS_kept)), .inr (some (.inr HS_trial)), .inr (some (.inr HS_clerk)), .inr (some (.inr HS_crew)), .inr (some (.inr HS_riddles)), .inr (some (.inr HS_sheetReader)), .inr (some (.inl 3)), .inr (some (.inr HS_lawReader)), .inr (some (.inr HS_seen)), .inr (some (.inr HS_rules)), .inr (some (.inr HS_spareRules)), .inl HS_wasKept]), .inr (9, [.inr (some (.inl 2)), .inl 0]), .inl (0, 260, Tape_bytes), .inr (5, [.inr (some (.inl 2)), .inl ((nI n)), .inl at_, .inl ah, .inl fa, .inr (some (.inl 4)), .inr (some (.inl 5)), .inr (some (.inl 6)), .inl ((nI k)), .inl td, .inl ((nI c))]), .inl (0, 20, sg), .inl (0, 20, lt), .inl (0, 20, nu), .inr (4, [.inr (some (.inl 8)), .inr (some (.inl 9)), .inr (some (.inl 10)), .inr (some (.inl 11)), .inl ((nI (poT o n c T))), .inl wd, .inl Now_day, .inl Now_drawState]), .inl (0, 8, pl), .inl (0, 8, pa), .inl (0, 48, le), .inl (0, 48, us), .inr (6, [.inr (some (.inl 13)), .inr (some (.inl 14)), .inr (some (.inl 15)), .inr (some (.inl 16)), .inr (some (.inl 17)), .inl Rep_toldMints, .inl ws, .inl ((nI c))]), .inl (0, 8, Rep_mintX), .inl (0, 8, Rep_mintY), .inl (2, 384, (poW o n c T Rep_wall)), .inl (0, 48, Rep_mintOf), .inl (0, 48, Rep_grainsOf)]) := by
  refine m_X11_post (Nat.le_of_ble_eq_true rfl) ?_
  refine call0 (c_canGive) rfl rfl ?_
  rintro r h' ⟨rfl, rfl⟩
  refine br_b (fun z => absurd ⟨(nI_bt (a := 1) (b := 120) (by omega) (by omega) (by omega)).mpr ⟨hn1, hn⟩, (nI_leI (by omega) (by omega)).mpr hns⟩ z) (fun _ => ?_)
  refine call0 (c_X4_toldBits) rfl rfl ?_
  rintro r h' ⟨rfl, rfl⟩
  refine call0 (c_X7_stamps) rfl rfl ?_
  rintro r h' ⟨rfl, rfl⟩
  refine call0 (c_X5_read (b := o) (n := n) (c := c) (T := T) hn1 (by omega) hc hb) rfl rfl ?_
  rintro r h' ⟨at_, ah, fa, td, k, sg, lt, nu, hk, hp, rfl⟩
  rcases hp with ⟨os, e1, e2, e3, e4, rfl⟩ | ⟨g, a, e1, hg, ha, rfl⟩
  · refine call0 (c_X10_empty) rfl rfl ?_
    rintro r h' ⟨rfl, rfl⟩
    refine And.intro (fun z => absurd ((nI_ltI (b := 0) (by omega) (by omega)).mp z) (by omega)) (fun _ => ?_)
    refine call0 (c_X5_carryOut (os := os) (c := c) (T := T) (k := k) hk e2 e3 e4 hc) rfl rfl ?_
    rintro r h' ⟨pl, pa, le, us, wd, ws, rfl, rfl⟩
    have y1 : poY o n c T = nI k := by unfold poY; rw [e1]; exact congrArg nI e2
    have y2 : poT o n c T = tdL T os := by unfold poT; rw [e1]
    have y3 : poW o n c T Rep_wall = wlL Rep_wall os := by unfold poW; rw [e1]
    exact ⟨at_, ah, fa, td, wd, ws, k, sg, lt, nu, pl, pa, le, us, hk, by rw [y1], by rw [y2, y3]⟩
  · refine call0 (c_X10_empty) rfl rfl ?_
    rintro r h' ⟨rfl, rfl⟩
    have ei := ftV_i (k := g) (a := a) (by omega) (by omega)
    have z0 : (0 : Int32).toInt = 0 := rfl
    refine And.intro (fun _ => ?_) (fun z => absurd (Int32.lt_iff_toInt_lt.mpr (by omega)) z)
    have y1 : poY o n c T = ftV g a := by unfold poY; rw [e1]
    have y2 : poT o n c T = T := by unfold poT; rw [e1]
    have y3 : poW o n c T Rep_wall = Rep_wall := by unfold poW; rw [e1]
    exact ⟨at_, ah, fa, td, Now_walled, Rep_walls, k, sg, lt, nu, Now_place, Now_paste, Now_letter, Now_used, hk, by rw [y1], by rw [y2, y3]⟩

