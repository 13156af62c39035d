/-! ===== mints and what was printed, exactly ===== -/
theorem or_k (a b : Nat) : f_or (nI a) (nI b) = nI (a ||| b) := by
  apply b_ext
  intro i hi
  show bt (nI a ||| nI b) i = bt (nI (a ||| b)) i
  rw [b_or, bt_n hi, bt_n hi, bt_n hi, Nat.testBit_or]
theorem div_n {a b : Nat} (ha : a < 100000) (hb : b < 100000) (h0 : 1 ≤ b) : nI a / nI b = nI (a / b) := by
  apply Int32.toInt_inj.mp
  have hd : a / b ≤ a := Nat.div_le_self a b
  rw [Int32.toInt_div, nI_toInt (by omega), nI_toInt (by omega), nI_toInt (by omega), Int.tdiv_eq_ediv_of_nonneg (by omega)]
  have e : (a : Int) / (b : Int) = ((a / b : Nat) : Int) := (Int.natCast_ediv a b).symm
  rw [e]
  clear e
  generalize a / b = d at hd ⊢
  exact bm (by omega) (by omega)
theorem rem_n {a b : Nat} (ha : a < 100000) (hb : b < 100000) (h0 : 1 ≤ b) : nI a - nI a / nI b * nI b = nI (a % b) := by
  rw [div_n ha hb h0, nI_mul, nI_sub (Nat.div_mul_le_self a b)]
  congr 1
  have := Nat.div_add_mod a b
  rw [Nat.mul_comm] at this
  omega
set_option maxRecDepth 100000 in
theorem c_X7_tellMint {l : Launch} {Rep_toldMints Rep_walls Rep_stamps : Int32} {Rep_mintX Rep_mintY Rep_wall Rep_mintOf Rep_grainsOf : Nat → Int32}  {m : Nat} {x y : Int32} (hm : m < 8) : MetP l 1 yX7_tellMint cX7_tellMint 4 none 0 0 [.inr (some (.inl 0)), .inl (nI m), .inl x, .inl y] [.inr (6, [.inr (some (.inl 1)), .inr (some (.inl 2)), .inr (some (.inl 3)), .inr (some (.inl 4)), .inr (some (.inl 5)), .inl Rep_toldMints, .inl Rep_walls, .inl Rep_stamps]), .inl (0, 8, Rep_mintX), .inl (0, 8, Rep_mintY), .inl (2, 384, Rep_wall), .inl (0, 48, Rep_mintOf), .inl (0, 48, Rep_grainsOf)] (fun r h' => r = none ∧ h' = [.inr (6, [.inr (some (.inl 1)), .inr (some (.inl 2)), .inr (some (.inl 3)), .inr (some (.inl 4)), .inr (some (.inl 5)), .inl ((f_or Rep_toldMints (f_shl 1 (nI m)))), .inl Rep_walls, .inl Rep_stamps]), .inl (0, 8, (upd Rep_mintX m x)), .inl (0, 8, (upd Rep_mintY m y)), .inl (2, 384, Rep_wall), .inl (0, 48, Rep_mintOf), .inl (0, 48, Rep_grainsOf)]) := by
  refine m_X7_tellMint (Nat.le_of_ble_eq_true rfl) ?_
  refine call0 (c_within) rfl rfl ?_
  rintro r h' ⟨rfl, rfl⟩
  refine br_b (fun z => absurd ((nI_bt (a := 0) (b := 7) (by omega) (by omega) (by omega)).mpr ⟨by omega, by omega⟩) z) (fun _ => ?_)
  refine And.intro (vp_in_nI (n := m) (by omega) (by omega)) ?_
  refine And.intro (vp_in_nI (n := m) (by omega) (by omega)) ?_
  rw [nI_clamp (by omega)]
  exact ⟨rfl, rfl⟩
set_option maxRecDepth 100000 in
theorem c_X11_mint {l : Launch} {HS_tape HS_now HS_kept HS_trial HS_clerk HS_crew HS_riddles HS_sheetReader HS_postReader HS_lawReader HS_seen HS_rules HS_spareRules : List (Option Nat)} {HS_wasKept Rep_toldMints Rep_walls Rep_stamps : Int32} {Rep_mintX Rep_mintY Rep_wall Rep_mintOf Rep_grainsOf : Nat → Int32}  {m x y : Nat} (hm : m < 8) (hx : x ≤ 23) (hy : y ≤ 15) : MetP l 2 yX11_mint cX11_mint 4 (some .boolean) 0 0 [.inr (some (.inl 0)), .inl (nI m), .inl (nI x), .inl (nI y)] [.inr (10, [.inr (some (.inr HS_tape)), .inr (some (.inl 1)), .inr (some (.inr HS_now)), .inr (some (.inr HS_kept)), .inr (some (.inr HS_trial)), .inr (some (.inr HS_clerk)), .inr (some (.inr HS_crew)), .inr (some (.inr HS_riddles)), .inr (some (.inr HS_sheetReader)), .inr (some (.inr HS_postReader)), .inr (some (.inr HS_lawReader)), .inr (some (.inr HS_seen)), .inr (some (.inr HS_rules)), .inr (some (.inr HS_spareRules)), .inl HS_wasKept]), .inr (6, [.inr (some (.inl 2)), .inr (some (.inl 3)), .inr (some (.inl 4)), .inr (some (.inl 5)), .inr (some (.inl 6)), .inl Rep_toldMints, .inl Rep_walls, .inl Rep_stamps]), .inl (0, 8, Rep_mintX), .inl (0, 8, Rep_mintY), .inl (2, 384, Rep_wall), .inl (0, 48, Rep_mintOf), .inl (0, 48, Rep_grainsOf)] (fun r h' => r = some (.inl 1) ∧ h' = [.inr (10, [.inr (some (.inr HS_tape)), .inr (some (.inl 1)), .inr (some (.inr HS_now)), .inr (some (.inr HS_kept)), .inr (some (.inr HS_trial)), .inr (some (.inr HS_clerk)), .inr (some (.inr HS_crew)), .inr (some (.inr HS_riddles)), .inr (some (.inr HS_sheetReader)), .inr (some (.inr HS_postReader)), .inr (some (.inr HS_lawReader)), .inr (some (.inr HS_seen)), .inr (some (.inr HS_rules)), .inr (some (.inr HS_spareRules)), .inl HS_wasKept]), .inr (6, [.inr (some (.inl 2)), .inr (some (.inl 3)), .inr (some (.inl 4)), .inr (some (.inl 5)), .inr (some (.inl 6)), .inl ((f_or Rep_toldMints (f_shl 1 (nI m)))), .inl Rep_walls, .inl Rep_stamps]), .inl (0, 8, (upd Rep_mintX m (nI x))), .inl (0, 8, (upd Rep_mintY m (nI y))), .inl (2, 384, Rep_wall), .inl (0, 48, Rep_mintOf), .inl (0, 48, Rep_grainsOf)]) := by
  refine m_X11_mint (Nat.le_of_ble_eq_true rfl) ?_
  refine call0 (c_within) rfl rfl ?_
  rintro r h' ⟨rfl, rfl⟩
  refine br_b (fun z => absurd ((nI_bt (a := 0) (b := 7) (by omega) (by omega) (by omega)).mpr ⟨by omega, by omega⟩) z) (fun _ => ?_)
  refine call0 (c_within) rfl rfl ?_
  rintro r h' ⟨rfl, rfl⟩
  refine br_b (fun z => absurd ((nI_bt (a := 0) (b := 23) (by omega) (by omega) (by omega)).mpr ⟨by omega, by omega⟩) z) (fun _ => ?_)
  refine call0 (c_within) rfl rfl ?_
  rintro r h' ⟨rfl, rfl⟩
  refine br_b (fun z => absurd ((nI_bt (a := 0) (b := 15) (by omega) (by omega) (by omega)).mpr ⟨by omega, by omega⟩) z) (fun _ => ?_)
  refine call0 (c_X7_tellMint (m := m) (x := nI x) (y := nI y) hm) rfl rfl ?_
  rintro r h' ⟨rfl, rfl⟩
  exact And.intro (Or.inr rfl) ⟨rfl, rfl⟩
set_option maxRecDepth 100000 in
theorem c_X12_mint {l : Launch} {M_now M_aside M_kept M_mintOf M_wholeOf M_isWall M_wasWall M_tape M_said M_waitsAt M_saidLetter M_saidFrom M_saidHalf M_saidTo M_codes M_clauseOf M_codeFrom M_codeHalf M_codeTo M_stack M_facts M_newStamps M_roundFrom M_roundAt M_roundTimes M_usesNow M_wasAt M_someOf M_fewestFor M_getsOf : List (Option Nat)} {M_stampMany M_taped M_place0 M_length0 M_fault M_number0 M_open M_codeMany M_waiting M_saidMany M_clauses M_newMany M_rounds M_stampFrom M_stampTimes M_lines M_spot0 M_pullAcross M_pullAlong M_stepsNow M_fallenNow M_isKept : Int32} {M_mintAt : Nat → Int32}  {m x y : Nat} (hm : m < 8) (hx : x ≤ 23) (hy : y ≤ 15) : MetP l 1 yX12_mint cX12_mint 4 (some .boolean) 0 0 [.inr (some (.inl 0)), .inl (nI m), .inl (nI x), .inl (nI y)] [.inr (11, [.inr (some (.inr M_now)), .inr (some (.inr M_aside)), .inr (some (.inr M_kept)), .inr (some (.inl 1)), .inr (some (.inr M_mintOf)), .inr (some (.inr M_wholeOf)), .inr (some (.inr M_isWall)), .inr (some (.inr M_wasWall)), .inl M_stampMany, .inr (some (.inr M_tape)), .inl M_taped, .inl M_place0, .inl M_length0, .inl M_fault, .inl M_number0, .inl M_open, .inl M_codeMany, .inl M_waiting, .inl M_saidMany, .inl M_clauses, .inr (some (.inr M_said)), .inr (some (.inr M_waitsAt)), .inr (some (.inr M_saidLetter)), .inr (some (.inr M_saidFrom)), .inr (some (.inr M_saidHalf)), .inr (some (.inr M_saidTo)), .inr (some (.inr M_codes)), .inr (some (.inr M_clauseOf)), .inr (some (.inr M_codeFrom)), .inr (some (.inr M_codeHalf)), .inr (some (.inr M_codeTo)), .inr (some (.inr M_stack)), .inr (some (.inr M_facts)), .inr (some (.inr M_newStamps)), .inr (some (.inr M_roundFrom)), .inr (some (.inr M_roundAt)), .inr (some (.inr M_roundTimes)), .inl M_newMany, .inl M_rounds, .inl M_stampFrom, .inl M_stampTimes, .inl M_lines, .inl M_spot0, .inl M_pullAcross, .inl M_pullAlong, .inl M_stepsNow, .inl M_fallenNow, .inr (some (.inr M_usesNow)), .inr (some (.inr M_wasAt)), .inr (some (.inr M_someOf)), .inr (some (.inr M_fewestFor)), .inr (some (.inr M_getsOf)), .inl M_isKept]), .inl (0, 8, M_mintAt)] (fun r h' => r = some (.inl 1) ∧ h' = [.inr (11, [.inr (some (.inr M_now)), .inr (some (.inr M_aside)), .inr (some (.inr M_kept)), .inr (some (.inl 1)), .inr (some (.inr M_mintOf)), .inr (some (.inr M_wholeOf)), .inr (some (.inr M_isWall)), .inr (some (.inr M_wasWall)), .inl M_stampMany, .inr (some (.inr M_tape)), .inl M_taped, .inl M_place0, .inl M_length0, .inl M_fault, .inl M_number0, .inl M_open, .inl M_codeMany, .inl M_waiting, .inl M_saidMany, .inl M_clauses, .inr (some (.inr M_said)), .inr (some (.inr M_waitsAt)), .inr (some (.inr M_saidLetter)), .inr (some (.inr M_saidFrom)), .inr (some (.inr M_saidHalf)), .inr (some (.inr M_saidTo)), .inr (some (.inr M_codes)), .inr (some (.inr M_clauseOf)), .inr (some (.inr M_codeFrom)), .inr (some (.inr M_codeHalf)), .inr (some (.inr M_codeTo)), .inr (some (.inr M_stack)), .inr (some (.inr M_facts)), .inr (some (.inr M_newStamps)), .inr (some (.inr M_roundFrom)), .inr (some (.inr M_roundAt)), .inr (some (.inr M_roundTimes)), .inl M_newMany, .inl M_rounds, .inl M_stampFrom, .inl M_stampTimes, .inl M_lines, .inl M_spot0, .inl M_pullAcross, .inl M_pullAlong, .inl M_stepsNow, .inl M_fallenNow, .inr (some (.inr M_usesNow)), .inr (some (.inr M_wasAt)), .inr (some (.inr M_someOf)), .inr (some (.inr M_fewestFor)), .inr (some (.inr M_getsOf)), .inl M_isKept]), .inl (0, 8, (upd M_mintAt m (nI (24 * y + x))))]) := by
  refine m_X12_mint (Nat.le_of_ble_eq_true rfl) ?_
  refine call0 (c_in) rfl rfl ?_
  rintro r h' ⟨rfl, rfl⟩
  refine br_b (fun z => absurd ((nI_bt (a := 0) (b := 7) (by omega) (by omega) (by omega)).mpr ⟨by omega, by omega⟩) z) (fun _ => ?_)
  refine call0 (c_in) rfl rfl ?_
  rintro r h' ⟨rfl, rfl⟩
  refine br_b (fun z => absurd ((nI_bt (a := 0) (b := 23) (by omega) (by omega) (by omega)).mpr ⟨by omega, by omega⟩) z) (fun _ => ?_)
  refine call0 (c_in) rfl rfl ?_
  rintro r h' ⟨rfl, rfl⟩
  refine br_b (fun z => absurd ((nI_bt (a := 0) (b := 15) (by omega) (by omega) (by omega)).mpr ⟨by omega, by omega⟩) z) (fun _ => ?_)
  refine And.intro (vp_in_nI (n := m) (by omega) (by omega)) ?_
  rw [nI_clamp (by omega)]
  have e : f_add (f_mul 24 (nI y)) (nI x) = nI (24 * y + x) := by
    show nI 24 * nI y + nI x = _
    rw [nI_mul, nI_add]
  rw [e]
  exact And.intro (Or.inr rfl) ⟨rfl, rfl⟩
/-- which way a mint lies: bits -/
def wayN (tx ty x y : Nat) : Nat := (if x < tx then 1 else 0) + (if tx < x then 2 else 0) + (if y < ty then 4 else 0) + (if ty < y then 8 else 0)
def sdV (a b : Nat) : Int32 := if a = b then 0 else if b ≤ a then -1 else 1
set_option maxRecDepth 100000 in
theorem c_X11_side {l : Launch} {a b : Nat} (ha : a < 1000) (hb : b < 1000) : MetP l 0 yX11_side cX11_side 2 (some .int) 0 0 [.inl (nI a), .inl (nI b)] [] (fun r h' => r = some (.inl (sdV a b)) ∧ h' = []) := by
  refine m_X11_side (Nat.le_of_ble_eq_true rfl) ?_
  unfold sdV
  refine And.intro (fun w => ?_) (fun w => ?_)
  · have w := (nI_eq (by omega) (by omega)).mp w
    rw [if_pos w]
    exact ⟨rfl, rfl⟩
  · have w : ¬ a = b := fun z => w ((nI_eq (by omega) (by omega)).mpr z)
    rw [if_neg w]
    refine And.intro (fun v => ?_) (fun v => ?_)
    · have v := (nI_leI (by omega) (by omega)).mp v
      rw [if_pos v]
      exact ⟨rfl, rfl⟩
    · have v : ¬ b ≤ a := fun z => v ((nI_leI (by omega) (by omega)).mpr z)
      rw [if_neg v]
      exact ⟨rfl, rfl⟩
def wbV (a b : Int32) : Int32 := if b = 0 then (if a = 0 then 0 else f_or 0 (if a ≤ 0 then 2 else 1)) else f_or (if a = 0 then 0 else f_or 0 (if a ≤ 0 then 2 else 1)) (if b ≤ 0 then 8 else 4)
set_option maxRecDepth 100000 in
theorem c_X11_wayBits {l : Launch} {a b : Int32} : MetP l 0 yX11_wayBits cX11_wayBits 3 (some .int) 0 0 [.inl a, .inl b] [] (fun r h' => r = some (.inl (wbV a b)) ∧ h' = []) := by
  refine m_X11_wayBits (Nat.le_of_ble_eq_true rfl) ?_
  unfold wbV
  have s18 : ∀ p : Int32, b_X11_wayBits_18 l (fun r h' => r = some (.inl (if b = 0 then p else f_or p (if b ≤ 0 then 8 else 4))) ∧ h' = []) [some (.inl a), some (.inl b), some (.inl p)] [] [] := fun p => by
    refine And.intro (fun (w : b = 0) => ?_) (fun (w : ¬ b = 0) => ?_)
    · rw [if_pos w]
      exact ⟨rfl, rfl⟩
    · rw [if_neg w]
      refine And.intro (fun (v : b ≤ 0) => ?_) (fun (v : ¬ b ≤ 0) => ?_)
      · rw [if_pos v]
        exact ⟨rfl, rfl⟩
      · rw [if_neg v]
        exact ⟨rfl, rfl⟩
  refine And.intro (fun (w : a = 0) => ?_) (fun (w : ¬ a = 0) => ?_)
  · rw [if_pos w]
    exact s18 0
  · rw [if_neg w]
    refine And.intro (fun (v : a ≤ 0) => ?_) (fun (v : ¬ a ≤ 0) => ?_)
    · rw [if_pos v]
      exact s18 _
    · rw [if_neg v]
      exact s18 _
theorem wb_way {tx ty x y : Nat} : wbV (sdV x tx) (sdV y ty) = nI (wayN tx ty x y) := by
  unfold sdV wayN
  rcases Nat.lt_trichotomy x tx with p | p | p <;> rcases Nat.lt_trichotomy y ty with q | q | q
  · rw [if_neg (by omega), if_neg (by omega), if_neg (by omega), if_neg (by omega), if_pos p, if_neg (by omega), if_pos q, if_neg (by omega)]; decide
  · rw [if_neg (by omega), if_neg (by omega), if_pos q, if_pos p, if_neg (by omega), if_neg (by omega), if_neg (by omega)]; decide
  · rw [if_neg (by omega), if_neg (by omega), if_neg (by omega), if_pos (by omega), if_pos p, if_neg (by omega), if_neg (by omega), if_pos q]; decide
  · rw [if_pos p, if_neg (by omega), if_neg (by omega), if_neg (by omega), if_neg (by omega), if_pos q, if_neg (by omega)]; decide
  · rw [if_pos p, if_pos q, if_neg (by omega), if_neg (by omega), if_neg (by omega), if_neg (by omega)]; decide
  · rw [if_pos p, if_neg (by omega), if_pos (by omega), if_neg (by omega), if_neg (by omega), if_neg (by omega), if_pos q]; decide
  · rw [if_neg (by omega), if_pos (by omega), if_neg (by omega), if_neg (by omega), if_neg (by omega), if_pos p, if_pos q, if_neg (by omega)]; decide
  · rw [if_neg (by omega), if_pos (by omega), if_pos q, if_neg (by omega), if_pos p, if_neg (by omega), if_neg (by omega)]; decide
  · rw [if_neg (by omega), if_pos (by omega), if_neg (by omega), if_pos (by omega), if_neg (by omega), if_pos p, if_neg (by omega), if_pos q]; decide
theorem wayN_le {tx ty x y : Nat} : wayN tx ty x y ≤ 15 := by
  unfold wayN
  split <;> split <;> split <;> split <;> omega
set_option maxRecDepth 100000 in
theorem c_X7_wayTo {l : Launch} {Rep_toldMints Rep_walls Rep_stamps : Int32} {Rep_mintX Rep_mintY Rep_wall Rep_mintOf Rep_grainsOf : Nat → Int32}  {m tx ty x y : Nat} (hm : m < 8) (hx : x ≤ 255) (hy : y ≤ 255) (htx : tx ≤ 23) (hty : ty ≤ 15) (eX : Rep_mintX m = nI tx) (eY : Rep_mintY m = nI ty) : MetP l 1 yX7_wayTo cX7_wayTo 4 (some .int) 0 0 [.inr (some (.inl 0)), .inl (nI m), .inl (nI x), .inl (nI y)] [.inr (6, [.inr (some (.inl 1)), .inr (some (.inl 2)), .inr (some (.inl 3)), .inr (some (.inl 4)), .inr (some (.inl 5)), .inl Rep_toldMints, .inl Rep_walls, .inl Rep_stamps]), .inl (0, 8, Rep_mintX), .inl (0, 8, Rep_mintY), .inl (2, 384, Rep_wall), .inl (0, 48, Rep_mintOf), .inl (0, 48, Rep_grainsOf)] (fun r h' => r = some (.inl (nI (wayN tx ty x y))) ∧ h' = [.inr (6, [.inr (some (.inl 1)), .inr (some (.inl 2)), .inr (some (.inl 3)), .inr (some (.inl 4)), .inr (some (.inl 5)), .inl Rep_toldMints, .inl Rep_walls, .inl Rep_stamps]), .inl (0, 8, Rep_mintX), .inl (0, 8, Rep_mintY), .inl (2, 384, Rep_wall), .inl (0, 48, Rep_mintOf), .inl (0, 48, Rep_grainsOf)]) := by
  refine m_X7_wayTo (Nat.le_of_ble_eq_true rfl) ?_
  refine call0 (c_within) rfl rfl ?_
  rintro r h' ⟨rfl, rfl⟩
  refine br_b (fun z => absurd ((nI_bt (a := 0) (b := 7) (by omega) (by omega) (by omega)).mpr ⟨by omega, by omega⟩) z) (fun _ => ?_)
  refine And.intro (vp_in_nI (n := m) (by omega) (by omega)) ?_
  rw [nI_clamp (by omega), eX]
  refine call0 (c_X11_side (a := x) (b := tx) (by omega) (by omega)) rfl rfl ?_
  rintro r h' ⟨rfl, rfl⟩
  refine And.intro (vp_in_nI (n := m) (by omega) (by omega)) ?_
  rw [nI_clamp (by omega), eY]
  refine call0 (c_X11_side (a := y) (b := ty) (by omega) (by omega)) rfl rfl ?_
  rintro r h' ⟨rfl, rfl⟩
  refine call0 (c_X11_wayBits) rfl rfl ?_
  rintro r h' ⟨rfl, rfl⟩
  rw [wb_way]
  exact ⟨rfl, rfl⟩
/-- do the first n pulls fit a mint? -/
def fitB (o : Nat → Nat) (tx ty : Nat) : Nat → Bool
  | 0 => true
  | i + 1 => fitB o tx ty i && decide (wayN tx ty (o (3 * i)) (o (3 * i + 1)) = o (3 * i + 2))
theorem fitB_le {o : Nat → Nat} {tx ty i : Nat} : ∀ {n : Nat}, i ≤ n → fitB o tx ty n = true → fitB o tx ty i = true
  | 0, hi, h => by rw [show i = 0 by omega]; rfl
  | n + 1, hi, h => by
    rcases (by omega : i = n + 1 ∨ i ≤ n) with rfl | q
    · exact h
    · unfold fitB at h
      rw [Bool.and_eq_true] at h
      exact fitB_le q h.1
theorem m3 (i : Nat) : f_mul 3 (nI i) = nI (3 * i) := nI_mul 3 i
theorem m3a (i k : Nat) : f_add (f_mul 3 (nI i)) (nI k) = nI (3 * i + k) := by rw [m3]; exact nI_add _ _
set_option maxRecDepth 100000 in
theorem c_X11_fitsAllPulls {l : Launch} {HS_now HS_kept HS_trial HS_clerk HS_crew HS_riddles HS_sheetReader HS_postReader HS_lawReader HS_seen HS_rules HS_spareRules : List (Option Nat)} {HS_wasKept Rep_toldMints Rep_walls Rep_stamps : Int32} {Tape_bytes Rep_mintX Rep_mintY Rep_wall Rep_mintOf Rep_grainsOf : Nat → Int32}  {o : Nat → Nat} {m n s tx ty : Nat} (hm : m < 8) (hn : n ≤ 10) (hs : s ≤ 260) (hns : 3 * n ≤ s) (hb : obC Tape_bytes o 30) (htx : tx ≤ 23) (hty : ty ≤ 15) (eX : Rep_mintX m = nI tx) (eY : Rep_mintY m = nI ty) : MetP l 2 yX11_fitsAllPulls cX11_fitsAllPulls 4 (some .boolean) 0 0 [.inr (some (.inl 0)), .inl (nI m), .inl (nI n)] [.inr (10, [.inr (some (.inl 1)), .inr (some (.inl 3)), .inr (some (.inr HS_now)), .inr (some (.inr HS_kept)), .inr (some (.inr HS_trial)), .inr (some (.inr HS_clerk)), .inr (some (.inr HS_crew)), .inr (some (.inr HS_riddles)), .inr (some (.inr HS_sheetReader)), .inr (some (.inr HS_postReader)), .inr (some (.inr HS_lawReader)), .inr (some (.inr HS_seen)), .inr (some (.inr HS_rules)), .inr (some (.inr HS_spareRules)), .inl HS_wasKept]), .inr (9, [.inr (some (.inl 2)), .inl ((nI s))]), .inl (0, 260, Tape_bytes), .inr (6, [.inr (some (.inl 4)), .inr (some (.inl 5)), .inr (some (.inl 6)), .inr (some (.inl 7)), .inr (some (.inl 8)), .inl Rep_toldMints, .inl Rep_walls, .inl Rep_stamps]), .inl (0, 8, Rep_mintX), .inl (0, 8, Rep_mintY), .inl (2, 384, Rep_wall), .inl (0, 48, Rep_mintOf), .inl (0, 48, Rep_grainsOf)] (fun r h' => r = some (.inl (bI (fitB o tx ty n = true))) ∧ h' = [.inr (10, [.inr (some (.inl 1)), .inr (some (.inl 3)), .inr (some (.inr HS_now)), .inr (some (.inr HS_kept)), .inr (some (.inr HS_trial)), .inr (some (.inr HS_clerk)), .inr (some (.inr HS_crew)), .inr (some (.inr HS_riddles)), .inr (some (.inr HS_sheetReader)), .inr (some (.inr HS_postReader)), .inr (some (.inr HS_lawReader)), .inr (some (.inr HS_seen)), .inr (some (.inr HS_rules)), .inr (some (.inr HS_spareRules)), .inl HS_wasKept]), .inr (9, [.inr (some (.inl 2)), .inl ((nI s))]), .inl (0, 260, Tape_bytes), .inr (6, [.inr (some (.inl 4)), .inr (some (.inl 5)), .inr (some (.inl 6)), .inr (some (.inl 7)), .inr (some (.inl 8)), .inl Rep_toldMints, .inl Rep_walls, .inl Rep_stamps]), .inl (0, 8, Rep_mintX), .inl (0, 8, Rep_mintY), .inl (2, 384, Rep_wall), .inl (0, 48, Rep_mintOf), .inl (0, 48, Rep_grainsOf)]) := by
  refine m_X11_fitsAllPulls (fun μ L st h => ∃ i : Nat, μ = n - i ∧ i ≤ n ∧ fitB o tx ty i = true ∧ L = [some (.inr (some (.inl 0))), some (.inl (nI m)), some (.inl (nI n)), some (.inl (nI i))] ∧ st = [] ∧ h = [.inr (10, [.inr (some (.inl 1)), .inr (some (.inl 3)), .inr (some (.inr HS_now)), .inr (some (.inr HS_kept)), .inr (some (.inr HS_trial)), .inr (some (.inr HS_clerk)), .inr (some (.inr HS_crew)), .inr (some (.inr HS_riddles)), .inr (some (.inr HS_sheetReader)), .inr (some (.inr HS_postReader)), .inr (some (.inr HS_lawReader)), .inr (some (.inr HS_seen)), .inr (some (.inr HS_rules)), .inr (some (.inr HS_spareRules)), .inl HS_wasKept]), .inr (9, [.inr (some (.inl 2)), .inl ((nI s))]), .inl (0, 260, Tape_bytes), .inr (6, [.inr (some (.inl 4)), .inr (some (.inl 5)), .inr (some (.inl 6)), .inr (some (.inl 7)), .inr (some (.inl 8)), .inl Rep_toldMints, .inl Rep_walls, .inl Rep_stamps]), .inl (0, 8, Rep_mintX), .inl (0, 8, Rep_mintY), .inl (2, 384, Rep_wall), .inl (0, 48, Rep_mintOf), .inl (0, 48, Rep_grainsOf)]) (Nat.le_of_ble_eq_true rfl) ?_ ?_
  · exact ⟨_, 0, rfl, by omega, rfl, rfl, rfl, rfl⟩
  · rintro μ L st h ⟨i, hμ, h1, h2, rfl, rfl, rfl⟩
    refine And.intro (fun q1 => ?_) (fun q1 => ?_)
    · have q1 := (nI_leI (by omega) (by omega)).mp q1
      obtain rfl : i = n := by omega
      exact And.intro (Or.inr rfl) (by rw [bI_t h2]; exact ⟨rfl, rfl⟩)
    · have q1 : i < n := Nat.lt_of_not_le fun z => q1 ((nI_leI (by omega) (by omega)).mpr z)
      obtain ⟨a1, a2⟩ := hb (3 * i) (by omega)
      obtain ⟨b1, b2⟩ := hb (3 * i + 1) (by omega)
      obtain ⟨c1, c2⟩ := hb (3 * i + 2) (by omega)
      refine call0 (g_X10_at (s := s) (k := 3 * i) (m3 i) hs (by omega)) rfl rfl ?_
      rintro r h' ⟨rfl, rfl⟩
      refine call0 (g_X10_at (s := s) (k := 3 * i + 1) (m3a i 1) hs (by omega)) rfl rfl ?_
      rintro r h' ⟨rfl, rfl⟩
      rw [a2, b2]
      refine call0 (c_X7_wayTo (m := m) (tx := tx) (ty := ty) (x := o (3 * i)) (y := o (3 * i + 1)) hm a1 b1 htx hty eX eY) rfl rfl ?_
      rintro r h' ⟨rfl, rfl⟩
      refine call0 (g_X10_at (s := s) (k := 3 * i + 2) (m3a i 2) hs (by omega)) rfl rfl ?_
      rintro r h' ⟨rfl, rfl⟩
      rw [c2]
      have wl := wayN_le (tx := tx) (ty := ty) (x := o (3 * i)) (y := o (3 * i + 1))
      refine And.intro (fun w => ?_) (fun w => ?_)
      · have w := (nI_eq (by omega) (by omega)).mp w
        exact ⟨n - (i + 1), by omega, i + 1, rfl, by omega, by unfold fitB; rw [h2, Bool.true_and]; exact decide_eq_true w, by rw [← nI_1 i] <;> rfl, rfl, rfl⟩
      · have w : ¬ wayN tx ty (o (3 * i)) (o (3 * i + 1)) = o (3 * i + 2) := fun z => w ((nI_eq (by omega) (by omega)).mpr z)
        have nf : ¬ fitB o tx ty n = true := fun z => by
          have q := fitB_le (i := i + 1) (by omega) z
          unfold fitB at q
          rw [Bool.and_eq_true] at q
          exact w (of_decide_eq_true q.2)
        exact And.intro (Or.inl rfl) (by rw [bI_f nf]; exact ⟨rfl, rfl⟩)
set_option maxRecDepth 100000 in
theorem c_X7_isToldMint {l : Launch} {Rep_walls Rep_stamps : Int32} {Rep_mintX Rep_mintY Rep_wall Rep_mintOf Rep_grainsOf : Nat → Int32}  {m T : Nat} (hm : m < 8) : MetP l 1 yX7_isToldMint cX7_isToldMint 2 (some .boolean) 0 0 [.inr (some (.inl 0)), .inl (nI m)] [.inr (6, [.inr (some (.inl 1)), .inr (some (.inl 2)), .inr (some (.inl 3)), .inr (some (.inl 4)), .inr (some (.inl 5)), .inl ((nI T)), .inl Rep_walls, .inl Rep_stamps]), .inl (0, 8, Rep_mintX), .inl (0, 8, Rep_mintY), .inl (2, 384, Rep_wall), .inl (0, 48, Rep_mintOf), .inl (0, 48, Rep_grainsOf)] (fun r h' => r = some (.inl (bI (T.testBit m = true))) ∧ h' = [.inr (6, [.inr (some (.inl 1)), .inr (some (.inl 2)), .inr (some (.inl 3)), .inr (some (.inl 4)), .inr (some (.inl 5)), .inl ((nI T)), .inl Rep_walls, .inl Rep_stamps]), .inl (0, 8, Rep_mintX), .inl (0, 8, Rep_mintY), .inl (2, 384, Rep_wall), .inl (0, 48, Rep_mintOf), .inl (0, 48, Rep_grainsOf)]) := by
  refine m_X7_isToldMint (Nat.le_of_ble_eq_true rfl) ?_
  refine call0 (c_within) rfl rfl ?_
  rintro r h' ⟨rfl, rfl⟩
  refine br_b (fun z => absurd ((nI_bt (a := 0) (b := 7) (by omega) (by omega) (by omega)).mpr ⟨by omega, by omega⟩) z) (fun _ => ?_)
  refine And.intro (fun w => ?_) (fun w => ?_)
  · have w := (hasB_n (S := T) (e := m) (by omega)).mp w
    exact And.intro (Or.inr rfl) (by rw [bI_t w]; exact ⟨rfl, rfl⟩)
  · have w : ¬ T.testBit m = true := fun z => w ((hasB_n (S := T) (e := m) (by omega)).mpr z)
    exact And.intro (Or.inl rfl) (by rw [bI_f w]; exact ⟨rfl, rfl⟩)
/-- the mints that fit, bits -/
def prF (P : Nat → Bool) : Nat → Nat
  | 0 => 0
  | m + 1 => if P m = true then prF P m ||| 2 ^ m else prF P m
theorem prF_lt {P : Nat → Bool} : ∀ m, prF P m < 2 ^ m
  | 0 => (by decide : 0 < 2 ^ 0)
  | m + 1 => by
    have h := prF_lt (P := P) m
    have e : 2 ^ (m + 1) = 2 * 2 ^ m := by rw [Nat.pow_succ]; omega
    unfold prF
    split
    · exact Nat.or_lt_two_pow (by omega) (by omega)
    · omega
theorem pr_or {P : Nat → Bool} {m : Nat} (hm : m < 8) : f_or (nI (prF P m)) (f_shl 1 (nI m)) = nI (prF P m ||| 2 ^ m) := by
  rw [pw_n m (by omega)]
  exact or_k _ _
/-- mints as both sides hold them -/
def mtR (T : Nat) (fx fy fa : Nat → Int32) : Prop := ∀ m, m < 8 → (T.testBit m = true ∧ ∃ x y, x ≤ 23 ∧ y ≤ 15 ∧ fx m = nI x ∧ fy m = nI y ∧ fa m = nI (24 * y + x)) ∨ (T.testBit m = false ∧ fa m = -1)
def prC (o : Nat → Nat) (n T : Nat) (fx fy : Nat → Int32) (m : Nat) : Bool := T.testBit m && fitB o (fx m).toInt.toNat (fy m).toInt.toNat n
def prR (o : Nat → Nat) (n : Nat) (fa : Nat → Int32) (m : Nat) : Bool := !decide (fa m = -1) && fitB o ((fa m).toInt.toNat % 24) ((fa m).toInt.toNat / 24) n
theorem n1_k {b : Nat} (hb : b < 100000) : ¬ nI b = -1 := fun z => by
  have := congrArg Int32.toInt z
  rw [nI_toInt (by omega)] at this
  have e : (-1 : Int32).toInt = -1 := rfl
  omega
theorem tn_n {b : Nat} (hb : b < 100000) : (nI b).toInt.toNat = b := by rw [nI_toInt (by omega)]; omega
theorem prF_eq {P Q : Nat → Bool} : ∀ {m : Nat}, (∀ i, i < m → P i = Q i) → prF P m = prF Q m
  | 0, _ => rfl
  | m + 1, h => by
    unfold prF
    rw [prF_eq (m := m) (fun i hi => h i (by omega)), h m (by omega)]
theorem pr_same {o : Nat → Nat} {n T : Nat} {fx fy fa : Nat → Int32} (h : mtR T fx fy fa) : prF (prC o n T fx fy) 8 = prF (prR o n fa) 8 := prF_eq fun m hm => by
  unfold prC prR
  rcases h m hm with ⟨a, x, y, hx, hy, e1, e2, e3⟩ | ⟨a, e3⟩
  · rw [a, e1, e2, e3, decide_eq_false (n1_k (by omega)), tn_n (by omega), tn_n (by omega), tn_n (by omega), show (24 * y + x) % 24 = x by omega, show (24 * y + x) / 24 = y by omega]
    rfl
  · rw [a, e3, decide_eq_true rfl]
    rfl
set_option maxRecDepth 100000 in
theorem c_X11_printed {l : Launch} {HS_now HS_kept HS_trial HS_clerk HS_crew HS_riddles HS_sheetReader HS_postReader HS_lawReader HS_seen HS_rules HS_spareRules : List (Option Nat)} {HS_wasKept Rep_walls Rep_stamps : Int32} {Tape_bytes Rep_mintX Rep_mintY Rep_wall Rep_mintOf Rep_grainsOf : Nat → Int32}  {o : Nat → Nat} {n s T : Nat} (hn1 : 1 ≤ n) (hn : n ≤ 10) (hs : s ≤ 260) (hns : 3 * n ≤ s) (hb : obC Tape_bytes o 30) (hT : ∀ m, m < 8 → T.testBit m = true → ∃ x y, x ≤ 23 ∧ y ≤ 15 ∧ Rep_mintX m = nI x ∧ Rep_mintY m = nI y) : MetP l 3 yX11_printed cX11_printed 4 (some .int) 0 0 [.inr (some (.inl 0)), .inl (nI n)] [.inr (10, [.inr (some (.inl 1)), .inr (some (.inl 3)), .inr (some (.inr HS_now)), .inr (some (.inr HS_kept)), .inr (some (.inr HS_trial)), .inr (some (.inr HS_clerk)), .inr (some (.inr HS_crew)), .inr (some (.inr HS_riddles)), .inr (some (.inr HS_sheetReader)), .inr (some (.inr HS_postReader)), .inr (some (.inr HS_lawReader)), .inr (some (.inr HS_seen)), .inr (some (.inr HS_rules)), .inr (some (.inr HS_spareRules)), .inl HS_wasKept]), .inr (9, [.inr (some (.inl 2)), .inl ((nI s))]), .inl (0, 260, Tape_bytes), .inr (6, [.inr (some (.inl 4)), .inr (some (.inl 5)), .inr (some (.inl 6)), .inr (some (.inl 7)), .inr (some (.inl 8)), .inl ((nI T)), .inl Rep_walls, .inl Rep_stamps]), .inl (0, 8, Rep_mintX), .inl (0, 8, Rep_mintY), .inl (2, 384, Rep_wall), .inl (0, 48, Rep_mintOf), .inl (0, 48, Rep_grainsOf)] (fun r h' => r = some (.inl (nI (prF (prC o n T Rep_mintX Rep_mintY) 8))) ∧ h' = [.inr (10, [.inr (some (.inl 1)), .inr (some (.inl 3)), .inr (some (.inr HS_now)), .inr (some (.inr HS_kept)), .inr (some (.inr HS_trial)), .inr (some (.inr HS_clerk)), .inr (some (.inr HS_crew)), .inr (some (.inr HS_riddles)), .inr (some (.inr HS_sheetReader)), .inr (some (.inr HS_postReader)), .inr (some (.inr HS_lawReader)), .inr (some (.inr HS_seen)), .inr (some (.inr HS_rules)), .inr (some (.inr HS_spareRules)), .inl HS_wasKept]), .inr (9, [.inr (some (.inl 2)), .inl 0]), .inl (0, 260, Tape_bytes), .inr (6, [.inr (some (.inl 4)), .inr (some (.inl 5)), .inr (some (.inl 6)), .inr (some (.inl 7)), .inr (some (.inl 8)), .inl ((nI T)), .inl Rep_walls, .inl Rep_stamps]), .inl (0, 8, Rep_mintX), .inl (0, 8, Rep_mintY), .inl (2, 384, Rep_wall), .inl (0, 48, Rep_mintOf), .inl (0, 48, Rep_grainsOf)]) := by
  refine m_X11_printed (fun μ L st h => ∃ m : Nat, μ = 8 - m ∧ m ≤ 8 ∧ L = [some (.inr (some (.inl 0))), some (.inl (nI n)), some (.inl (nI (prF (prC o n T Rep_mintX Rep_mintY) m))), some (.inl (nI m))] ∧ st = [] ∧ h = [.inr (10, [.inr (some (.inl 1)), .inr (some (.inl 3)), .inr (some (.inr HS_now)), .inr (some (.inr HS_kept)), .inr (some (.inr HS_trial)), .inr (some (.inr HS_clerk)), .inr (some (.inr HS_crew)), .inr (some (.inr HS_riddles)), .inr (some (.inr HS_sheetReader)), .inr (some (.inr HS_postReader)), .inr (some (.inr HS_lawReader)), .inr (some (.inr HS_seen)), .inr (some (.inr HS_rules)), .inr (some (.inr HS_spareRules)), .inl HS_wasKept]), .inr (9, [.inr (some (.inl 2)), .inl ((nI s))]), .inl (0, 260, Tape_bytes), .inr (6, [.inr (some (.inl 4)), .inr (some (.inl 5)), .inr (some (.inl 6)), .inr (some (.inl 7)), .inr (some (.inl 8)), .inl ((nI T)), .inl Rep_walls, .inl Rep_stamps]), .inl (0, 8, Rep_mintX), .inl (0, 8, Rep_mintY), .inl (2, 384, Rep_wall), .inl (0, 48, Rep_mintOf), .inl (0, 48, Rep_grainsOf)]) (Nat.le_of_ble_eq_true rfl) ?_ ?_
  · refine call0 (c_within) rfl rfl ?_
    rintro r h' ⟨rfl, rfl⟩
    refine br_b (fun z => absurd ((nI_bt (a := 1) (b := 10) (by omega) (by omega) (by omega)).mpr ⟨hn1, hn⟩) z) (fun _ => ?_)
    refine call0 (c_canGive) rfl rfl ?_
    rintro r h' ⟨rfl, rfl⟩
    refine br_b (fun z => absurd (by rw [m3]; exact ⟨(nI_bt (a := 3) (b := 30) (by omega) (by omega) (by omega)).mpr ⟨by omega, by omega⟩, (nI_leI (by omega) (by omega)).mpr hns⟩) z) (fun _ => ?_)
    exact ⟨_, 0, rfl, by omega, rfl, rfl, rfl⟩
  · rintro μ L st h ⟨m, hμ, h1, rfl, rfl, rfl⟩
    refine And.intro (fun q1 => ?_) (fun q1 => ?_)
    · have q1 := (nI_leI (a := 8) (by omega) (by omega)).mp q1
      obtain rfl : m = 8 := by omega
      refine call0 (c_X10_empty) rfl rfl ?_
      rintro r h' ⟨rfl, rfl⟩
      exact ⟨rfl, rfl⟩
    · have q1 : m < 8 := Nat.lt_of_not_le fun z => q1 ((nI_leI (a := 8) (by omega) (by omega)).mpr z)
      have go : ∀ {x : Nat}, x = prF (prC o n T Rep_mintX Rep_mintY) (m + 1) → ∃ μ', μ' < μ ∧ ∃ m' : Nat, μ' = 8 - m' ∧ m' ≤ 8 ∧ ([some (.inr (some (.inl 0))), some (.inl (nI n)), some (.inl (nI x)), some (.inl (f_add (nI m) 1))] : PL) = [some (.inr (some (.inl 0))), some (.inl (nI n)), some (.inl (nI (prF (prC o n T Rep_mintX Rep_mintY) m'))), some (.inl (nI m'))] ∧ ([] : List PV) = [] ∧ ([.inr (10, [.inr (some (.inl 1)), .inr (some (.inl 3)), .inr (some (.inr HS_now)), .inr (some (.inr HS_kept)), .inr (some (.inr HS_trial)), .inr (some (.inr HS_clerk)), .inr (some (.inr HS_crew)), .inr (some (.inr HS_riddles)), .inr (some (.inr HS_sheetReader)), .inr (some (.inr HS_postReader)), .inr (some (.inr HS_lawReader)), .inr (some (.inr HS_seen)), .inr (some (.inr HS_rules)), .inr (some (.inr HS_spareRules)), .inl HS_wasKept]), .inr (9, [.inr (some (.inl 2)), .inl ((nI s))]), .inl (0, 260, Tape_bytes), .inr (6, [.inr (some (.inl 4)), .inr (some (.inl 5)), .inr (some (.inl 6)), .inr (some (.inl 7)), .inr (some (.inl 8)), .inl ((nI T)), .inl Rep_walls, .inl Rep_stamps]), .inl (0, 8, Rep_mintX), .inl (0, 8, Rep_mintY), .inl (2, 384, Rep_wall), .inl (0, 48, Rep_mintOf), .inl (0, 48, Rep_grainsOf)] : PH) = [.inr (10, [.inr (some (.inl 1)), .inr (some (.inl 3)), .inr (some (.inr HS_now)), .inr (some (.inr HS_kept)), .inr (some (.inr HS_trial)), .inr (some (.inr HS_clerk)), .inr (some (.inr HS_crew)), .inr (some (.inr HS_riddles)), .inr (some (.inr HS_sheetReader)), .inr (some (.inr HS_postReader)), .inr (some (.inr HS_lawReader)), .inr (some (.inr HS_seen)), .inr (some (.inr HS_rules)), .inr (some (.inr HS_spareRules)), .inl HS_wasKept]), .inr (9, [.inr (some (.inl 2)), .inl ((nI s))]), .inl (0, 260, Tape_bytes), .inr (6, [.inr (some (.inl 4)), .inr (some (.inl 5)), .inr (some (.inl 6)), .inr (some (.inl 7)), .inr (some (.inl 8)), .inl ((nI T)), .inl Rep_walls, .inl Rep_stamps]), .inl (0, 8, Rep_mintX), .inl (0, 8, Rep_mintY), .inl (2, 384, Rep_wall), .inl (0, 48, Rep_mintOf), .inl (0, 48, Rep_grainsOf)] := fun {x} e => ⟨8 - (m + 1), by omega, m + 1, rfl, by omega, by rw [e, ← nI_1 m] <;> rfl, rfl, rfl⟩
      have pe : prF (prC o n T Rep_mintX Rep_mintY) (m + 1) = (if prC o n T Rep_mintX Rep_mintY m = true then prF (prC o n T Rep_mintX Rep_mintY) m ||| 2 ^ m else prF (prC o n T Rep_mintX Rep_mintY) m) := rfl
      refine call0 (c_X7_isToldMint (m := m) (T := T) q1) rfl rfl ?_
      rintro r h' ⟨rfl, rfl⟩
      refine br_b (fun w => ?_) (fun w => ?_)
      · have pf : ¬ prC o n T Rep_mintX Rep_mintY m = true := fun z => by
          unfold prC at z
          rw [Bool.and_eq_true] at z
          exact w z.1
        rw [if_neg pf] at pe
        exact go pe.symm
      · obtain ⟨x, y, hx, hy, eX, eY⟩ := hT m q1 w
        have pq : prC o n T Rep_mintX Rep_mintY m = fitB o x y n := by
          unfold prC
          rw [w, Bool.true_and, eX, eY, tn_n (by omega), tn_n (by omega)]
        refine call0 (c_X11_fitsAllPulls (o := o) (m := m) (n := n) (s := s) (tx := x) (ty := y) q1 hn hs hns hb hx hy eX eY) rfl rfl ?_
        rintro r h' ⟨rfl, rfl⟩
        refine br_b (fun v => ?_) (fun v => ?_)
        · rw [if_neg (by rw [pq]; exact v)] at pe
          exact go pe.symm
        · rw [if_pos (by rw [pq]; exact v)] at pe
          have go2 := go pe.symm
          rw [← pr_or q1] at go2
          exact go2
/-! the other side -/
theorem lt0 {a b : Nat} (ha : a < 100000) (hb : b < 100000) : (f_sub (nI a) (nI b) ≤ 0 ↔ a ≤ b) ∧ ((0 : Int32) ≤ f_sub (nI a) (nI b) ↔ b ≤ a) := by
  have e := sub_i ha hb
  have z0 : (0 : Int32).toInt = 0 := rfl
  rw [Int32.le_iff_toInt_le, Int32.le_iff_toInt_le, e, z0]
  exact ⟨by omega, by omega⟩
set_option maxRecDepth 100000 in
theorem c_X12_liesSo {l : Launch} {M_now M_aside M_kept M_mintAt M_mintOf M_wholeOf M_isWall M_wasWall M_said M_waitsAt M_saidLetter M_saidFrom M_saidHalf M_saidTo M_codes M_clauseOf M_codeFrom M_codeHalf M_codeTo M_stack M_facts M_newStamps M_roundFrom M_roundAt M_roundTimes M_usesNow M_wasAt M_someOf M_fewestFor M_getsOf : List (Option Nat)} {M_stampMany M_taped M_place0 M_length0 M_fault M_number0 M_open M_codeMany M_waiting M_saidMany M_clauses M_newMany M_rounds M_stampFrom M_stampTimes M_lines M_spot0 M_pullAcross M_pullAlong M_stepsNow M_fallenNow M_isKept : Int32} {M_tape : Nat → Int32}  {o : Nat → Nat} {p k : Nat} (hp : p ≤ 383) (hk : k < 10) (hb : obM M_tape o 30) : MetP l 1 yX12_liesSo cX12_liesSo 6 (some .boolean) 0 0 [.inr (some (.inl 0)), .inl (nI p), .inl (nI k)] [.inr (11, [.inr (some (.inr M_now)), .inr (some (.inr M_aside)), .inr (some (.inr M_kept)), .inr (some (.inr M_mintAt)), .inr (some (.inr M_mintOf)), .inr (some (.inr M_wholeOf)), .inr (some (.inr M_isWall)), .inr (some (.inr M_wasWall)), .inl M_stampMany, .inr (some (.inl 1)), .inl M_taped, .inl M_place0, .inl M_length0, .inl M_fault, .inl M_number0, .inl M_open, .inl M_codeMany, .inl M_waiting, .inl M_saidMany, .inl M_clauses, .inr (some (.inr M_said)), .inr (some (.inr M_waitsAt)), .inr (some (.inr M_saidLetter)), .inr (some (.inr M_saidFrom)), .inr (some (.inr M_saidHalf)), .inr (some (.inr M_saidTo)), .inr (some (.inr M_codes)), .inr (some (.inr M_clauseOf)), .inr (some (.inr M_codeFrom)), .inr (some (.inr M_codeHalf)), .inr (some (.inr M_codeTo)), .inr (some (.inr M_stack)), .inr (some (.inr M_facts)), .inr (some (.inr M_newStamps)), .inr (some (.inr M_roundFrom)), .inr (some (.inr M_roundAt)), .inr (some (.inr M_roundTimes)), .inl M_newMany, .inl M_rounds, .inl M_stampFrom, .inl M_stampTimes, .inl M_lines, .inl M_spot0, .inl M_pullAcross, .inl M_pullAlong, .inl M_stepsNow, .inl M_fallenNow, .inr (some (.inr M_usesNow)), .inr (some (.inr M_wasAt)), .inr (some (.inr M_someOf)), .inr (some (.inr M_fewestFor)), .inr (some (.inr M_getsOf)), .inl M_isKept]), .inl (1, 260, M_tape)] (fun r h' => r = some (.inl (bI (wayN (p % 24) (p / 24) (o (3 * k)) (o (3 * k + 1)) = o (3 * k + 2)))) ∧ h' = [.inr (11, [.inr (some (.inr M_now)), .inr (some (.inr M_aside)), .inr (some (.inr M_kept)), .inr (some (.inr M_mintAt)), .inr (some (.inr M_mintOf)), .inr (some (.inr M_wholeOf)), .inr (some (.inr M_isWall)), .inr (some (.inr M_wasWall)), .inl M_stampMany, .inr (some (.inl 1)), .inl M_taped, .inl M_place0, .inl M_length0, .inl M_fault, .inl M_number0, .inl M_open, .inl M_codeMany, .inl M_waiting, .inl M_saidMany, .inl M_clauses, .inr (some (.inr M_said)), .inr (some (.inr M_waitsAt)), .inr (some (.inr M_saidLetter)), .inr (some (.inr M_saidFrom)), .inr (some (.inr M_saidHalf)), .inr (some (.inr M_saidTo)), .inr (some (.inr M_codes)), .inr (some (.inr M_clauseOf)), .inr (some (.inr M_codeFrom)), .inr (some (.inr M_codeHalf)), .inr (some (.inr M_codeTo)), .inr (some (.inr M_stack)), .inr (some (.inr M_facts)), .inr (some (.inr M_newStamps)), .inr (some (.inr M_roundFrom)), .inr (some (.inr M_roundAt)), .inr (some (.inr M_roundTimes)), .inl M_newMany, .inl M_rounds, .inl M_stampFrom, .inl M_stampTimes, .inl M_lines, .inl M_spot0, .inl M_pullAcross, .inl M_pullAlong, .inl M_stepsNow, .inl M_fallenNow, .inr (some (.inr M_usesNow)), .inr (some (.inr M_wasAt)), .inr (some (.inr M_someOf)), .inr (some (.inr M_fewestFor)), .inr (some (.inr M_getsOf)), .inl M_isKept]), .inl (1, 260, M_tape)]) := by
  obtain ⟨a1, a2⟩ := hb (3 * k) (by omega)
  obtain ⟨b1, b2⟩ := hb (3 * k + 1) (by omega)
  obtain ⟨c1, c2⟩ := hb (3 * k + 2) (by omega)
  have wl := wayN_le (tx := p % 24) (ty := p / 24) (x := o (3 * k)) (y := o (3 * k + 1))
  have er : nI p - nI p / 24 * 24 = nI (p % 24) := rem_n (b := 24) (by omega) (by omega) (by omega)
  have ed : nI p / 24 = nI (p / 24) := div_n (b := 24) (by omega) (by omega) (by omega)
  have lx := lt0 (a := p % 24) (b := o (3 * k)) (by omega) (by omega)
  have ly := lt0 (a := p / 24) (b := o (3 * k + 1)) (by omega) (by omega)
  -- the end
  have e70 : ∀ {u v w : Int32} {x3 x4 : Option PV}, f_add u v = nI (wayN (p % 24) (p / 24) (o (3 * k)) (o (3 * k + 1))) → b_X12_liesSo_70 l (fun r h' => r = some (.inl (bI (wayN (p % 24) (p / 24) (o (3 * k)) (o (3 * k + 1)) = o (3 * k + 2)))) ∧ h' = [.inr (11, [.inr (some (.inr M_now)), .inr (some (.inr M_aside)), .inr (some (.inr M_kept)), .inr (some (.inr M_mintAt)), .inr (some (.inr M_mintOf)), .inr (some (.inr M_wholeOf)), .inr (some (.inr M_isWall)), .inr (some (.inr M_wasWall)), .inl M_stampMany, .inr (some (.inl 1)), .inl M_taped, .inl M_place0, .inl M_length0, .inl M_fault, .inl M_number0, .inl M_open, .inl M_codeMany, .inl M_waiting, .inl M_saidMany, .inl M_clauses, .inr (some (.inr M_said)), .inr (some (.inr M_waitsAt)), .inr (some (.inr M_saidLetter)), .inr (some (.inr M_saidFrom)), .inr (some (.inr M_saidHalf)), .inr (some (.inr M_saidTo)), .inr (some (.inr M_codes)), .inr (some (.inr M_clauseOf)), .inr (some (.inr M_codeFrom)), .inr (some (.inr M_codeHalf)), .inr (some (.inr M_codeTo)), .inr (some (.inr M_stack)), .inr (some (.inr M_facts)), .inr (some (.inr M_newStamps)), .inr (some (.inr M_roundFrom)), .inr (some (.inr M_roundAt)), .inr (some (.inr M_roundTimes)), .inl M_newMany, .inl M_rounds, .inl M_stampFrom, .inl M_stampTimes, .inl M_lines, .inl M_spot0, .inl M_pullAcross, .inl M_pullAlong, .inl M_stepsNow, .inl M_fallenNow, .inr (some (.inr M_usesNow)), .inr (some (.inr M_wasAt)), .inr (some (.inr M_someOf)), .inr (some (.inr M_fewestFor)), .inr (some (.inr M_getsOf)), .inl M_isKept]), .inl (1, 260, M_tape)]) [some (.inr (some (.inl 0))), some (.inl (nI p)), some (.inl (nI k)), x3, x4, none] [.inl v, .inl u] [.inr (11, [.inr (some (.inr M_now)), .inr (some (.inr M_aside)), .inr (some (.inr M_kept)), .inr (some (.inr M_mintAt)), .inr (some (.inr M_mintOf)), .inr (some (.inr M_wholeOf)), .inr (some (.inr M_isWall)), .inr (some (.inr M_wasWall)), .inl M_stampMany, .inr (some (.inl 1)), .inl M_taped, .inl M_place0, .inl M_length0, .inl M_fault, .inl M_number0, .inl M_open, .inl M_codeMany, .inl M_waiting, .inl M_saidMany, .inl M_clauses, .inr (some (.inr M_said)), .inr (some (.inr M_waitsAt)), .inr (some (.inr M_saidLetter)), .inr (some (.inr M_saidFrom)), .inr (some (.inr M_saidHalf)), .inr (some (.inr M_saidTo)), .inr (some (.inr M_codes)), .inr (some (.inr M_clauseOf)), .inr (some (.inr M_codeFrom)), .inr (some (.inr M_codeHalf)), .inr (some (.inr M_codeTo)), .inr (some (.inr M_stack)), .inr (some (.inr M_facts)), .inr (some (.inr M_newStamps)), .inr (some (.inr M_roundFrom)), .inr (some (.inr M_roundAt)), .inr (some (.inr M_roundTimes)), .inl M_newMany, .inl M_rounds, .inl M_stampFrom, .inl M_stampTimes, .inl M_lines, .inl M_spot0, .inl M_pullAcross, .inl M_pullAlong, .inl M_stepsNow, .inl M_fallenNow, .inr (some (.inr M_usesNow)), .inr (some (.inr M_wasAt)), .inr (some (.inr M_someOf)), .inr (some (.inr M_fewestFor)), .inr (some (.inr M_getsOf)), .inl M_isKept]), .inl (1, 260, M_tape)] := fun {u v w x3 x4} e => by
    show b_X12_liesSo_70 l _ _ _ _
    refine (show o_bin f_add _ _ _ _ from ?_)
    show o_istore 5 _ _ [.inl (f_add u v)] _
    rw [e]
    refine call0 (g_X12_octet (k := 3 * k + 2) (m3a k 2) (by omega)) rfl rfl ?_
    rintro r h' ⟨rfl, rfl⟩
    rw [c2]
    refine And.intro (fun q => ?_) (fun q => ?_)
    · have q := (nI_eq (by omega) (by omega)).mp q
      exact And.intro (Or.inr rfl) (by rw [bI_t q]; exact ⟨rfl, rfl⟩)
    · have q : ¬ wayN (p % 24) (p / 24) (o (3 * k)) (o (3 * k + 1)) = o (3 * k + 2) := fun z => q ((nI_eq (by omega) (by omega)).mpr z)
      exact And.intro (Or.inl rfl) (by rw [bI_f q]; exact ⟨rfl, rfl⟩)
  refine m_X12_liesSo (Nat.le_of_ble_eq_true rfl) ?_
  refine And.intro (show ¬ (24 : Int32) = 0 by decide) ?_
  rw [er]
  refine call0 (g_X12_octet (k := 3 * k) (m3 k) (by omega)) rfl rfl ?_
  rintro r h' ⟨rfl, rfl⟩
  rw [a2]
  refine And.intro (show ¬ (24 : Int32) = 0 by decide) ?_
  rw [ed]
  refine call0 (g_X12_octet (k := 3 * k + 1) (m3a k 1) (by omega)) rfl rfl ?_
  rintro r h' ⟨rfl, rfl⟩
  rw [b2]
  unfold wayN at e70
  refine And.intro (fun q => ?_) (fun q => ?_)
  · have q : ¬ o (3 * k) < p % 24 := by have := lx.1.mp q; omega
    refine And.intro (fun r => ?_) (fun r => ?_)
    · have r : ¬ p % 24 < o (3 * k) := by have := lx.2.mp r; omega
      refine And.intro (fun s => ?_) (fun s => ?_)
      · have s : ¬ o (3 * k + 1) < p / 24 := by have := ly.1.mp s; omega
        refine And.intro (fun t => ?_) (fun t => ?_)
        · have t : ¬ p / 24 < o (3 * k + 1) := by have := ly.2.mp t; omega
          exact e70 (w := 0) (by rw [if_neg q, if_neg r, if_neg s, if_neg t]; decide)
        · have t : p / 24 < o (3 * k + 1) := by
            rcases Nat.lt_or_ge (p / 24) (o (3 * k + 1)) with z | z
            · exact z
            · exact absurd (ly.2.mpr z) t
          exact e70 (w := 0) (by rw [if_neg q, if_neg r, if_neg s, if_pos t]; decide)
      · have s : o (3 * k + 1) < p / 24 := by
          rcases Nat.lt_or_ge (o (3 * k + 1)) (p / 24) with z | z
          · exact z
          · exact absurd (ly.1.mpr z) s
        refine And.intro (fun t => ?_) (fun t => absurd (ly.2.mpr (by omega)) t)
        exact e70 (w := 0) (by rw [if_neg q, if_neg r, if_pos s, if_neg (by omega)]; decide)
    · have r : p % 24 < o (3 * k) := by
        rcases Nat.lt_or_ge (p % 24) (o (3 * k)) with z | z
        · exact z
        · exact absurd (lx.2.mpr z) r
      refine And.intro (fun s => ?_) (fun s => ?_)
      · have s : ¬ o (3 * k + 1) < p / 24 := by have := ly.1.mp s; omega
        refine And.intro (fun t => ?_) (fun t => ?_)
        · have t : ¬ p / 24 < o (3 * k + 1) := by have := ly.2.mp t; omega
          exact e70 (w := 0) (by rw [if_neg q, if_pos r, if_neg s, if_neg t]; decide)
        · have t : p / 24 < o (3 * k + 1) := by
            rcases Nat.lt_or_ge (p / 24) (o (3 * k + 1)) with z | z
            · exact z
            · exact absurd (ly.2.mpr z) t
          exact e70 (w := 0) (by rw [if_neg q, if_pos r, if_neg s, if_pos t]; decide)
      · have s : o (3 * k + 1) < p / 24 := by
          rcases Nat.lt_or_ge (o (3 * k + 1)) (p / 24) with z | z
          · exact z
          · exact absurd (ly.1.mpr z) s
        refine And.intro (fun t => ?_) (fun t => absurd (ly.2.mpr (by omega)) t)
        exact e70 (w := 0) (by rw [if_neg q, if_pos r, if_pos s, if_neg (by omega)]; decide)
  · have q : o (3 * k) < p % 24 := by
      rcases Nat.lt_or_ge (o (3 * k)) (p % 24) with z | z
      · exact z
      · exact absurd (lx.1.mpr z) q
    refine And.intro (fun r => ?_) (fun r => absurd (lx.2.mpr (by omega)) r)
    refine And.intro (fun s => ?_) (fun s => ?_)
    · have s : ¬ o (3 * k + 1) < p / 24 := by have := ly.1.mp s; omega
      refine And.intro (fun t => ?_) (fun t => ?_)
      · have t : ¬ p / 24 < o (3 * k + 1) := by have := ly.2.mp t; omega
        exact e70 (w := 0) (by rw [if_pos q, if_neg (by omega), if_neg s, if_neg t]; decide)
      · have t : p / 24 < o (3 * k + 1) := by
          rcases Nat.lt_or_ge (p / 24) (o (3 * k + 1)) with z | z
          · exact z
          · exact absurd (ly.2.mpr z) t
        exact e70 (w := 0) (by rw [if_pos q, if_neg (by omega), if_neg s, if_pos t]; decide)
    · have s : o (3 * k + 1) < p / 24 := by
        rcases Nat.lt_or_ge (o (3 * k + 1)) (p / 24) with z | z
        · exact z
        · exact absurd (ly.1.mpr z) s
      refine And.intro (fun t => ?_) (fun t => absurd (ly.2.mpr (by omega)) t)
      exact e70 (w := 0) (by rw [if_pos q, if_neg (by omega), if_pos s, if_neg (by omega)]; decide)
set_option maxRecDepth 100000 in
theorem c_X12_printed {l : Launch} {M_now M_aside M_kept M_mintOf M_wholeOf M_isWall M_wasWall M_said M_waitsAt M_saidLetter M_saidFrom M_saidHalf M_saidTo M_codes M_clauseOf M_codeFrom M_codeHalf M_codeTo M_stack M_facts M_newStamps M_roundFrom M_roundAt M_roundTimes M_usesNow M_wasAt M_someOf M_fewestFor M_getsOf : List (Option Nat)} {M_stampMany M_place0 M_length0 M_fault M_number0 M_open M_codeMany M_waiting M_saidMany M_clauses M_newMany M_rounds M_stampFrom M_stampTimes M_lines M_spot0 M_pullAcross M_pullAlong M_stepsNow M_fallenNow M_isKept : Int32} {M_mintAt M_tape : Nat → Int32}  {o : Nat → Nat} {n s : Nat} (hn1 : 1 ≤ n) (hn : n ≤ 10) (hs : s ≤ 260) (hns : 3 * n ≤ s) (hb : obM M_tape o 30) (hA : ∀ m, m < 8 → -1 ≤ (M_mintAt m).toInt ∧ (M_mintAt m).toInt ≤ 383) : MetP l 2 yX12_printed cX12_printed 6 (some .int) 0 0 [.inr (some (.inl 0)), .inl (nI n)] [.inr (11, [.inr (some (.inr M_now)), .inr (some (.inr M_aside)), .inr (some (.inr M_kept)), .inr (some (.inl 1)), .inr (some (.inr M_mintOf)), .inr (some (.inr M_wholeOf)), .inr (some (.inr M_isWall)), .inr (some (.inr M_wasWall)), .inl M_stampMany, .inr (some (.inl 2)), .inl ((nI s)), .inl M_place0, .inl M_length0, .inl M_fault, .inl M_number0, .inl M_open, .inl M_codeMany, .inl M_waiting, .inl M_saidMany, .inl M_clauses, .inr (some (.inr M_said)), .inr (some (.inr M_waitsAt)), .inr (some (.inr M_saidLetter)), .inr (some (.inr M_saidFrom)), .inr (some (.inr M_saidHalf)), .inr (some (.inr M_saidTo)), .inr (some (.inr M_codes)), .inr (some (.inr M_clauseOf)), .inr (some (.inr M_codeFrom)), .inr (some (.inr M_codeHalf)), .inr (some (.inr M_codeTo)), .inr (some (.inr M_stack)), .inr (some (.inr M_facts)), .inr (some (.inr M_newStamps)), .inr (some (.inr M_roundFrom)), .inr (some (.inr M_roundAt)), .inr (some (.inr M_roundTimes)), .inl M_newMany, .inl M_rounds, .inl M_stampFrom, .inl M_stampTimes, .inl M_lines, .inl M_spot0, .inl M_pullAcross, .inl M_pullAlong, .inl M_stepsNow, .inl M_fallenNow, .inr (some (.inr M_usesNow)), .inr (some (.inr M_wasAt)), .inr (some (.inr M_someOf)), .inr (some (.inr M_fewestFor)), .inr (some (.inr M_getsOf)), .inl M_isKept]), .inl (0, 8, M_mintAt), .inl (1, 260, M_tape)] (fun r h' => r = some (.inl (nI (prF (prR o n M_mintAt) 8))) ∧ h' = [.inr (11, [.inr (some (.inr M_now)), .inr (some (.inr M_aside)), .inr (some (.inr M_kept)), .inr (some (.inl 1)), .inr (some (.inr M_mintOf)), .inr (some (.inr M_wholeOf)), .inr (some (.inr M_isWall)), .inr (some (.inr M_wasWall)), .inl M_stampMany, .inr (some (.inl 2)), .inl 0, .inl M_place0, .inl M_length0, .inl M_fault, .inl M_number0, .inl M_open, .inl M_codeMany, .inl M_waiting, .inl M_saidMany, .inl M_clauses, .inr (some (.inr M_said)), .inr (some (.inr M_waitsAt)), .inr (some (.inr M_saidLetter)), .inr (some (.inr M_saidFrom)), .inr (some (.inr M_saidHalf)), .inr (some (.inr M_saidTo)), .inr (some (.inr M_codes)), .inr (some (.inr M_clauseOf)), .inr (some (.inr M_codeFrom)), .inr (some (.inr M_codeHalf)), .inr (some (.inr M_codeTo)), .inr (some (.inr M_stack)), .inr (some (.inr M_facts)), .inr (some (.inr M_newStamps)), .inr (some (.inr M_roundFrom)), .inr (some (.inr M_roundAt)), .inr (some (.inr M_roundTimes)), .inl M_newMany, .inl M_rounds, .inl M_stampFrom, .inl M_stampTimes, .inl M_lines, .inl M_spot0, .inl M_pullAcross, .inl M_pullAlong, .inl M_stepsNow, .inl M_fallenNow, .inr (some (.inr M_usesNow)), .inr (some (.inr M_wasAt)), .inr (some (.inr M_someOf)), .inr (some (.inr M_fewestFor)), .inr (some (.inr M_getsOf)), .inl M_isKept]), .inl (0, 8, M_mintAt), .inl (1, 260, M_tape)]) := by
  have z0 : (0 : Int32).toInt = 0 := rfl
  have z1 : (-1 : Int32).toInt = -1 := rfl
  refine m_X12_printed (fun μ L st h => ∃ (m : Nat) (z4 z5 : Option PV), μ = 100 * (8 - m) + 50 ∧ m ≤ 8 ∧ L = [some (.inr (some (.inl 0))), some (.inl (nI n)), some (.inl (nI (prF (prR o n M_mintAt) m))), some (.inl (nI m)), z4, z5] ∧ st = [] ∧ h = [.inr (11, [.inr (some (.inr M_now)), .inr (some (.inr M_aside)), .inr (some (.inr M_kept)), .inr (some (.inl 1)), .inr (some (.inr M_mintOf)), .inr (some (.inr M_wholeOf)), .inr (some (.inr M_isWall)), .inr (some (.inr M_wasWall)), .inl M_stampMany, .inr (some (.inl 2)), .inl 0, .inl M_place0, .inl M_length0, .inl M_fault, .inl M_number0, .inl M_open, .inl M_codeMany, .inl M_waiting, .inl M_saidMany, .inl M_clauses, .inr (some (.inr M_said)), .inr (some (.inr M_waitsAt)), .inr (some (.inr M_saidLetter)), .inr (some (.inr M_saidFrom)), .inr (some (.inr M_saidHalf)), .inr (some (.inr M_saidTo)), .inr (some (.inr M_codes)), .inr (some (.inr M_clauseOf)), .inr (some (.inr M_codeFrom)), .inr (some (.inr M_codeHalf)), .inr (some (.inr M_codeTo)), .inr (some (.inr M_stack)), .inr (some (.inr M_facts)), .inr (some (.inr M_newStamps)), .inr (some (.inr M_roundFrom)), .inr (some (.inr M_roundAt)), .inr (some (.inr M_roundTimes)), .inl M_newMany, .inl M_rounds, .inl M_stampFrom, .inl M_stampTimes, .inl M_lines, .inl M_spot0, .inl M_pullAcross, .inl M_pullAlong, .inl M_stepsNow, .inl M_fallenNow, .inr (some (.inr M_usesNow)), .inr (some (.inr M_wasAt)), .inr (some (.inr M_someOf)), .inr (some (.inr M_fewestFor)), .inr (some (.inr M_getsOf)), .inl M_isKept]), .inl (0, 8, M_mintAt), .inl (1, 260, M_tape)]) (fun μ L st h => ∃ (m k : Nat) (b : Int32), μ = 100 * (8 - m) + (n - k) ∧ m < 8 ∧ k ≤ n ∧ ((b = 0 ∧ prR o n M_mintAt m = false) ∨ (b = 1 ∧ ∃ p, p ≤ 383 ∧ M_mintAt m = nI p ∧ fitB o (p % 24) (p / 24) k = true)) ∧ L = [some (.inr (some (.inl 0))), some (.inl (nI n)), some (.inl (nI (prF (prR o n M_mintAt) m))), some (.inl (nI m)), some (.inl b), some (.inl (nI k))] ∧ st = [] ∧ h = [.inr (11, [.inr (some (.inr M_now)), .inr (some (.inr M_aside)), .inr (some (.inr M_kept)), .inr (some (.inl 1)), .inr (some (.inr M_mintOf)), .inr (some (.inr M_wholeOf)), .inr (some (.inr M_isWall)), .inr (some (.inr M_wasWall)), .inl M_stampMany, .inr (some (.inl 2)), .inl 0, .inl M_place0, .inl M_length0, .inl M_fault, .inl M_number0, .inl M_open, .inl M_codeMany, .inl M_waiting, .inl M_saidMany, .inl M_clauses, .inr (some (.inr M_said)), .inr (some (.inr M_waitsAt)), .inr (some (.inr M_saidLetter)), .inr (some (.inr M_saidFrom)), .inr (some (.inr M_saidHalf)), .inr (some (.inr M_saidTo)), .inr (some (.inr M_codes)), .inr (some (.inr M_clauseOf)), .inr (some (.inr M_codeFrom)), .inr (some (.inr M_codeHalf)), .inr (some (.inr M_codeTo)), .inr (some (.inr M_stack)), .inr (some (.inr M_facts)), .inr (some (.inr M_newStamps)), .inr (some (.inr M_roundFrom)), .inr (some (.inr M_roundAt)), .inr (some (.inr M_roundTimes)), .inl M_newMany, .inl M_rounds, .inl M_stampFrom, .inl M_stampTimes, .inl M_lines, .inl M_spot0, .inl M_pullAcross, .inl M_pullAlong, .inl M_stepsNow, .inl M_fallenNow, .inr (some (.inr M_usesNow)), .inr (some (.inr M_wasAt)), .inr (some (.inr M_someOf)), .inr (some (.inr M_fewestFor)), .inr (some (.inr M_getsOf)), .inl M_isKept]), .inl (0, 8, M_mintAt), .inl (1, 260, M_tape)]) (Nat.le_of_ble_eq_true rfl) ?_ ?_ ?_
  · refine call0 (c_in) rfl rfl ?_
    rintro r h' ⟨rfl, rfl⟩
    refine br_b (fun z => absurd ((nI_bt (a := 1) (b := 10) (by omega) (by omega) (by omega)).mpr ⟨hn1, hn⟩) z) (fun _ => ?_)
    refine And.intro (fun _ => ?_) (fun z => absurd (show f_mul 3 (nI n) ≤ nI s by rw [m3]; exact (nI_leI (by omega) (by omega)).mpr hns) z)
    exact ⟨_, 0, _, _, rfl, by omega, rfl, rfl, rfl⟩
  · rintro μ L st h ⟨m, z4, z5, hμ, h1, rfl, rfl, rfl⟩
    refine And.intro (fun q1 => ?_) (fun q1 => ?_)
    · have q1 := (nI_leI (a := 8) (by omega) (by omega)).mp q1
      obtain rfl : m = 8 := by omega
      exact ⟨rfl, rfl⟩
    · have q1 : m < 8 := Nat.lt_of_not_le fun z => q1 ((nI_leI (a := 8) (by omega) (by omega)).mpr z)
      refine And.intro (vp_in_nI (n := m) (by omega) (by omega)) ?_
      rw [nI_clamp (by omega)]
      refine And.intro (fun (w : M_mintAt m = -1) => ?_) (fun (w : ¬ M_mintAt m = -1) => ?_)
      · exact ⟨100 * (8 - m) + n, by omega, m, 0, 0, rfl, q1, by omega, Or.inl ⟨rfl, by unfold prR; rw [decide_eq_true w]; rfl⟩, rfl, rfl, rfl⟩
      · have ha := hA m q1
        have ne : ¬ (M_mintAt m).toInt = -1 := fun z => w (i32eq.mpr (by omega))
        obtain ⟨p, hp, ep⟩ := rng_n (x := M_mintAt m) (k := 383) (by omega) (by omega)
        exact ⟨100 * (8 - m) + n, by omega, m, 0, 1, rfl, q1, by omega, Or.inr ⟨rfl, p, hp, ep, rfl⟩, rfl, rfl, rfl⟩
  · rintro μ L st h ⟨m, k, b, hμ, h1, h2, h3, rfl, rfl, rfl⟩
    have go : ∀ {x : Nat} {z4 z5 : Option PV}, x = prF (prR o n M_mintAt) (m + 1) → ∃ μ', μ' < μ ∧ ∃ (m' : Nat) (z4' z5' : Option PV), μ' = 100 * (8 - m') + 50 ∧ m' ≤ 8 ∧ ([some (.inr (some (.inl 0))), some (.inl (nI n)), some (.inl (nI x)), some (.inl (f_add (nI m) 1)), z4, z5] : PL) = [some (.inr (some (.inl 0))), some (.inl (nI n)), some (.inl (nI (prF (prR o n M_mintAt) m'))), some (.inl (nI m')), z4', z5'] ∧ ([] : List PV) = [] ∧ ([.inr (11, [.inr (some (.inr M_now)), .inr (some (.inr M_aside)), .inr (some (.inr M_kept)), .inr (some (.inl 1)), .inr (some (.inr M_mintOf)), .inr (some (.inr M_wholeOf)), .inr (some (.inr M_isWall)), .inr (some (.inr M_wasWall)), .inl M_stampMany, .inr (some (.inl 2)), .inl 0, .inl M_place0, .inl M_length0, .inl M_fault, .inl M_number0, .inl M_open, .inl M_codeMany, .inl M_waiting, .inl M_saidMany, .inl M_clauses, .inr (some (.inr M_said)), .inr (some (.inr M_waitsAt)), .inr (some (.inr M_saidLetter)), .inr (some (.inr M_saidFrom)), .inr (some (.inr M_saidHalf)), .inr (some (.inr M_saidTo)), .inr (some (.inr M_codes)), .inr (some (.inr M_clauseOf)), .inr (some (.inr M_codeFrom)), .inr (some (.inr M_codeHalf)), .inr (some (.inr M_codeTo)), .inr (some (.inr M_stack)), .inr (some (.inr M_facts)), .inr (some (.inr M_newStamps)), .inr (some (.inr M_roundFrom)), .inr (some (.inr M_roundAt)), .inr (some (.inr M_roundTimes)), .inl M_newMany, .inl M_rounds, .inl M_stampFrom, .inl M_stampTimes, .inl M_lines, .inl M_spot0, .inl M_pullAcross, .inl M_pullAlong, .inl M_stepsNow, .inl M_fallenNow, .inr (some (.inr M_usesNow)), .inr (some (.inr M_wasAt)), .inr (some (.inr M_someOf)), .inr (some (.inr M_fewestFor)), .inr (some (.inr M_getsOf)), .inl M_isKept]), .inl (0, 8, M_mintAt), .inl (1, 260, M_tape)] : PH) = [.inr (11, [.inr (some (.inr M_now)), .inr (some (.inr M_aside)), .inr (some (.inr M_kept)), .inr (some (.inl 1)), .inr (some (.inr M_mintOf)), .inr (some (.inr M_wholeOf)), .inr (some (.inr M_isWall)), .inr (some (.inr M_wasWall)), .inl M_stampMany, .inr (some (.inl 2)), .inl 0, .inl M_place0, .inl M_length0, .inl M_fault, .inl M_number0, .inl M_open, .inl M_codeMany, .inl M_waiting, .inl M_saidMany, .inl M_clauses, .inr (some (.inr M_said)), .inr (some (.inr M_waitsAt)), .inr (some (.inr M_saidLetter)), .inr (some (.inr M_saidFrom)), .inr (some (.inr M_saidHalf)), .inr (some (.inr M_saidTo)), .inr (some (.inr M_codes)), .inr (some (.inr M_clauseOf)), .inr (some (.inr M_codeFrom)), .inr (some (.inr M_codeHalf)), .inr (some (.inr M_codeTo)), .inr (some (.inr M_stack)), .inr (some (.inr M_facts)), .inr (some (.inr M_newStamps)), .inr (some (.inr M_roundFrom)), .inr (some (.inr M_roundAt)), .inr (some (.inr M_roundTimes)), .inl M_newMany, .inl M_rounds, .inl M_stampFrom, .inl M_stampTimes, .inl M_lines, .inl M_spot0, .inl M_pullAcross, .inl M_pullAlong, .inl M_stepsNow, .inl M_fallenNow, .inr (some (.inr M_usesNow)), .inr (some (.inr M_wasAt)), .inr (some (.inr M_someOf)), .inr (some (.inr M_fewestFor)), .inr (some (.inr M_getsOf)), .inl M_isKept]), .inl (0, 8, M_mintAt), .inl (1, 260, M_tape)] := fun {x z4 z5} e => ⟨100 * (8 - (m + 1)) + 50, by omega, m + 1, z4, z5, rfl, by omega, by rw [e, ← nI_1 m] <;> rfl, rfl, rfl⟩
    have pe : prF (prR o n M_mintAt) (m + 1) = (if prR o n M_mintAt m = true then prF (prR o n M_mintAt) m ||| 2 ^ m else prF (prR o n M_mintAt) m) := rfl
    have no : prR o n M_mintAt m = false → prF (prR o n M_mintAt) m = prF (prR o n M_mintAt) (m + 1) := fun z => by rw [pe, z, if_neg (by decide)]
    have ys : prR o n M_mintAt m = true → prF (prR o n M_mintAt) m ||| 2 ^ m = prF (prR o n M_mintAt) (m + 1) := fun z => by rw [pe, z, if_pos rfl]
    refine And.intro (fun q1 => ?_) (fun q1 => ?_)
    · have q1 := (nI_leI (by omega) (by omega)).mp q1
      obtain rfl : k = n := by omega
      rcases h3 with ⟨rfl, hf⟩ | ⟨rfl, p, hp, ep, hf⟩
      · refine And.intro (fun _ => go (no hf)) (fun z => absurd rfl z)
      · refine And.intro (fun z => absurd z (by show ¬ ((_ : Int32) = _); decide)) (fun _ => ?_)
        have hy : prR o k M_mintAt m = true := by
          unfold prR
          rw [ep, decide_eq_false (n1_k (by omega)), tn_n (by omega), hf]
          rfl
        have go2 := go (z4 := some (.inl 1)) (z5 := some (.inl (nI k))) (ys hy)
        rw [← pr_or h1] at go2
        exact go2
    · have q1 : k < n := Nat.lt_of_not_le fun z => q1 ((nI_leI (by omega) (by omega)).mpr z)
      rcases h3 with ⟨rfl, hf⟩ | ⟨rfl, p, hp, ep, hf⟩
      · refine And.intro (fun _ => ?_) (fun z => absurd rfl z)
        refine And.intro (fun _ => go (no hf)) (fun z => absurd rfl z)
      · refine And.intro (fun z => absurd z (by show ¬ ((_ : Int32) = _); decide)) (fun _ => ?_)
        refine And.intro (vp_in_nI (n := m) (by omega) (by omega)) ?_
        rw [nI_clamp (by omega), ep]
        refine call0 (c_X12_liesSo (o := o) (p := p) (k := k) hp (by omega) hb) rfl rfl ?_
        rintro r h' ⟨rfl, rfl⟩
        by_cases w : wayN (p % 24) (p / 24) (o (3 * k)) (o (3 * k + 1)) = o (3 * k + 2)
        · rw [bI_t w]
          exact ⟨100 * (8 - m) + (n - (k + 1)), by omega, m, k + 1, 1, rfl, h1, by omega, Or.inr ⟨rfl, p, hp, ep, by unfold fitB; rw [hf, Bool.true_and]; exact decide_eq_true w⟩, by rw [← nI_1 k] <;> rfl, rfl, rfl⟩
        · rw [bI_f w]
          refine ⟨100 * (8 - m) + (n - (k + 1)), by omega, m, k + 1, 0, rfl, h1, by omega, Or.inl ⟨rfl, ?_⟩, by rw [← nI_1 k] <;> rfl, rfl, rfl⟩
          unfold prR
          rw [ep, tn_n (by omega)]
          cases hn' : fitB o (p % 24) (p / 24) n
          · rw [Bool.and_false]
          · have z := fitB_le (i := k + 1) (by omega) hn'
            unfold fitB at z
            rw [Bool.and_eq_true] at z
            exact absurd (of_decide_eq_true z.2) w
/-! as the rounds keep them -/
theorem prF_congr {o : Nat → Nat} {n T : Nat} {fx fy gx gy : Nat → Int32} (h1 : ∀ i, i < 8 → fx i = gx i) (h2 : ∀ i, i < 8 → fy i = gy i) : prF (prC o n T fx fy) 8 = prF (prC o n T gx gy) 8 := prF_eq fun m hm => by
  unfold prC
  rw [h1 m hm, h2 m hm]
theorem prR_congr {o : Nat → Nat} {n : Nat} {fa ga : Nat → Int32} (h : ∀ i, i < 8 → fa i = ga i) : prF (prR o n fa) 8 = prF (prR o n ga) 8 := prF_eq fun m hm => by
  unfold prR
  rw [h m hm]
theorem mt_up {T : Nat} {fx fy fa : Nat → Int32} {m x y : Nat} (h : mtR T fx fy fa) (hm : m < 8) (hx : x ≤ 23) (hy : y ≤ 15) : mtR (T ||| 2 ^ m) (upd fx m (nI x)) (upd fy m (nI y)) (upd fa m (nI (24 * y + x))) := fun i hi => by
  by_cases q : i = m
  · subst q
    refine Or.inl ⟨?_, x, y, hx, hy, upd_sI, upd_sI, upd_sI⟩
    rw [tb_or, decide_eq_true rfl, Bool.or_true]
  · rw [upd_nI q, upd_nI q, upd_nI q, tb_or, decide_eq_false (fun z => q z.symm), Bool.or_false]
    exact h i hi
theorem mt_congr {T : Nat} {fx fy fa gx gy ga : Nat → Int32} (h : mtR T fx fy fa) (h1 : ∀ i, i < 8 → gx i = fx i) (h2 : ∀ i, i < 8 → gy i = fy i) (h3 : ∀ i, i < 8 → ga i = fa i) : mtR T gx gy ga := fun i hi => by
  rw [h1 i hi, h2 i hi, h3 i hi]
  exact h i hi
def MR (τ : Nat → List (Option Nat)) : Prop := ∃ T, T < 256 ∧ decA (τ 203) 0 = nI T ∧ mtR T (decA (τ 252)) (decA (τ 253)) (decA (τ 254))
theorem MR_up {τ τ' : Nat → List (Option Nat)} {m x y : Nat} {FX FY FA : Nat → Int32} (h : MR τ) (hm : m < 8) (hx : x ≤ 23) (hy : y ≤ 15) (a1 : ∀ i, i < 8 → FX i = decA (τ 252) i) (a2 : ∀ i, i < 8 → FY i = decA (τ 253) i) (a3 : ∀ i, i < 8 → FA i = decA (τ 254) i) (b1 : ∀ i, i < 8 → decA (τ' 252) i = upd FX m (nI x) i) (b2 : ∀ i, i < 8 → decA (τ' 253) i = upd FY m (nI y) i) (b3 : ∀ i, i < 8 → decA (τ' 254) i = upd FA m (nI (24 * y + x)) i) (b4 : decA (τ' 203) 0 = f_or (decA (τ 203) 0) (f_shl 1 (nI m))) : MR τ' := by
  obtain ⟨T, t1, t2, t3⟩ := h
  refine ⟨T ||| 2 ^ m, Nat.or_lt_two_pow (n := 8) t1 (Nat.pow_lt_pow_right (by omega) hm), by rw [b4, t2, pw_n m (by omega)]; exact or_k _ _, ?_⟩
  exact mt_congr (mt_up (mt_congr t3 a1 a2 a3) hm hx hy) b1 b2 b3

