/-! ===== crews: stamps that pull together ===== -/
theorem bit_x {x : Int32} {e : Nat} (he : e < 31) : f_and (f_shr x (nI e)) 1 = nI (if bt x e = true then 1 else 0) := by
  apply b_ext
  intro i hi
  show bt (x >>> (nI e &&& 31) &&& 1) i = bt (nI (if bt x e = true then 1 else 0)) i
  rw [b_and, b_sshr e (by omega) _ hi, bt_1 i hi, bt_n hi]
  by_cases q : i = 0
  · subst q
    rw [if_pos (by omega), Nat.add_zero, decide_eq_true rfl, Bool.and_true]
    cases bt x e
    · rfl
    · rfl
  · rw [decide_eq_false q, Bool.and_false]
    cases bt x e
    · show false = (0 : Nat).testBit i
      rw [Nat.zero_testBit]
    · show false = (1 : Nat).testBit i
      have k : ∀ i, i < 32 → ¬ i = 0 → (1 : Nat).testBit i = false := by decide +kernel
      exact (k i hi q).symm
theorem hasB_x {x : Int32} {e : Nat} (he : e < 31) : hasB x (nI e) ↔ bt x e = true := by
  unfold hasB
  rw [bit_x he]
  cases bt x e
  · exact ⟨fun z => absurd z (by decide), fun z => absurd z (by decide)⟩
  · exact ⟨fun _ => rfl, fun _ => rfl⟩
theorem bt_m1 : ∀ i, i < 32 → bt (-1) i = true := by decide +kernel
theorem no_b {S e : Nat} (he : e < 31) : hasB (f_xor (nI S) (-1)) (nI e) ↔ (!S.testBit e) = true := by
  rw [hasB_x he]
  show bt (nI S ^^^ (-1)) e = true ↔ _
  rw [b_xor, bt_n (by omega), bt_m1 e (by omega)]
  cases S.testBit e
  · exact ⟨fun _ => rfl, fun _ => rfl⟩
  · exact ⟨fun z => absurd z (by decide), fun z => absurd z (by decide)⟩
theorem an_b {S n e : Nat} (hn : n ≤ 12) (he : e < n) : hasB (f_and (nI (2 ^ n - 1)) (f_xor (nI S) (-1))) (nI e) ↔ (!S.testBit e) = true := by
  rw [hasB_x (by omega)]
  show bt (nI (2 ^ n - 1) &&& (nI S ^^^ (-1))) e = true ↔ _
  rw [b_and, b_xor, bt_n (by omega), bt_n (by omega), bt_m1 e (by omega), Nat.testBit_two_pow_sub_one, decide_eq_true he]
  cases S.testBit e
  · exact ⟨fun _ => rfl, fun _ => rfl⟩
  · exact ⟨fun z => absurd z (by decide), fun z => absurd z (by decide)⟩
/-- the pull of those that B names, of the first k -/
def plB (t : Nat → Int32) (B : Nat → Bool) : Nat → Int32
  | 0 => 0
  | k + 1 => if B k = true then f_add (plB t B k) (t k) else plB t B k
def tA (tw tx : Nat → Nat) (p i : Nat) : Int32 := f_mul (nI (tw i)) (sdV (p % 24) (tx i))
def tL (tw ty : Nat → Nat) (p i : Nat) : Int32 := f_mul (nI (tw i)) (sdV (p / 24) (ty i))
/-- what the members are, as the class holds them and as the other side does -/
def crC (c : Nat) (mb mo gr mx my : Nat → Int32) (s tw tx ty : Nat → Nat) (n : Nat) : Prop := ∀ i, i < n → mb i = nI (s i) ∧ s i < c ∧ ∃ m, m < 8 ∧ mo (s i) = nI m ∧ gr (s i) = nI (tw i) ∧ mx m = nI (tx i) ∧ my m = nI (ty i) ∧ tx i ≤ 23 ∧ ty i ≤ 15 ∧ tw i ≤ 2
def crR (so mo wh ma : Nat → Int32) (s tw tx ty : Nat → Nat) (n : Nat) : Prop := ∀ i, i < n → so i = nI (s i) ∧ s i < 48 ∧ ∃ m, m < 8 ∧ mo (s i) = nI m ∧ wh (s i) = nI (tw i) ∧ ma m = nI (24 * ty i + tx i) ∧ tx i ≤ 23 ∧ ty i ≤ 15 ∧ tw i ≤ 2
set_option maxRecDepth 100000 in
theorem c_X7_isStamp {l : Launch} {Rep_toldMints Rep_walls : Int32} {Rep_mintX Rep_mintY Rep_wall Rep_mintOf Rep_grainsOf : Nat → Int32}  {s c : Nat} (hc : c ≤ 48) (hs : s ≤ 255) : MetP l 0 yX7_isStamp cX7_isStamp 2 (some .boolean) 0 0 [.inr (some (.inl 0)), .inl (nI s)] [.inr (6, [.inr (some (.inl 1)), .inr (some (.inl 2)), .inr (some (.inl 3)), .inr (some (.inl 4)), .inr (some (.inl 5)), .inl Rep_toldMints, .inl Rep_walls, .inl ((nI c))]), .inl (0, 8, Rep_mintX), .inl (0, 8, Rep_mintY), .inl (2, 384, Rep_wall), .inl (0, 48, Rep_mintOf), .inl (0, 48, Rep_grainsOf)] (fun r h' => r = some (.inl (bI (s < c))) ∧ h' = [.inr (6, [.inr (some (.inl 1)), .inr (some (.inl 2)), .inr (some (.inl 3)), .inr (some (.inl 4)), .inr (some (.inl 5)), .inl Rep_toldMints, .inl Rep_walls, .inl ((nI c))]), .inl (0, 8, Rep_mintX), .inl (0, 8, Rep_mintY), .inl (2, 384, Rep_wall), .inl (0, 48, Rep_mintOf), .inl (0, 48, Rep_grainsOf)]) := by
  refine m_X7_isStamp (Nat.le_of_ble_eq_true rfl) ?_
  refine And.intro (fun q => absurd ((nI_ltI (b := 0) (by omega) (by omega)).mp q) (by omega)) (fun _ => ?_)
  refine And.intro (fun q => ?_) (fun q => ?_)
  · have q := (nI_leI (by omega) (by omega)).mp q
    exact And.intro (Or.inl rfl) (by rw [bI_f (by omega)]; exact ⟨rfl, rfl⟩)
  · have q : s < c := Nat.lt_of_not_le fun z => q ((nI_leI (by omega) (by omega)).mpr z)
    refine And.intro (fun z => absurd ((nI_leI (a := 48) (by omega) (by omega)).mp z) (by omega)) (fun _ => ?_)
    exact And.intro (Or.inr rfl) (by rw [bI_t q]; exact ⟨rfl, rfl⟩)
set_option maxRecDepth 100000 in
theorem c_X7_mintOf {l : Launch} {Rep_toldMints Rep_walls : Int32} {Rep_mintX Rep_mintY Rep_wall Rep_mintOf Rep_grainsOf : Nat → Int32}  {s c : Nat} (hc : c ≤ 48) (hs : s < c) : MetP l 1 yX7_mintOf cX7_mintOf 2 (some .int) 0 0 [.inr (some (.inl 0)), .inl (nI s)] [.inr (6, [.inr (some (.inl 1)), .inr (some (.inl 2)), .inr (some (.inl 3)), .inr (some (.inl 4)), .inr (some (.inl 5)), .inl Rep_toldMints, .inl Rep_walls, .inl ((nI c))]), .inl (0, 8, Rep_mintX), .inl (0, 8, Rep_mintY), .inl (2, 384, Rep_wall), .inl (0, 48, Rep_mintOf), .inl (0, 48, Rep_grainsOf)] (fun r h' => r = some (.inl (Rep_mintOf s)) ∧ h' = [.inr (6, [.inr (some (.inl 1)), .inr (some (.inl 2)), .inr (some (.inl 3)), .inr (some (.inl 4)), .inr (some (.inl 5)), .inl Rep_toldMints, .inl Rep_walls, .inl ((nI c))]), .inl (0, 8, Rep_mintX), .inl (0, 8, Rep_mintY), .inl (2, 384, Rep_wall), .inl (0, 48, Rep_mintOf), .inl (0, 48, Rep_grainsOf)]) := by
  refine m_X7_mintOf (Nat.le_of_ble_eq_true rfl) ?_
  refine call0 (c_X7_isStamp (s := s) (c := c) hc (by omega)) rfl rfl ?_
  rintro r h' ⟨rfl, rfl⟩
  refine br_b (fun z => absurd hs z) (fun _ => ?_)
  refine And.intro (vp_in_nI (n := s) (by omega) (by omega)) ?_
  rw [nI_clamp (by omega)]
  exact ⟨rfl, rfl⟩
theorem n_X7_mintOf {l : Launch} {Rep_toldMints Rep_walls : Int32} {Rep_mintX Rep_mintY Rep_wall Rep_mintOf Rep_grainsOf : Nat → Int32}  {s c : Nat} (hc : c ≤ 48) (hs : s ≤ 255) (hn : ¬ s < c) : MetP l 1 yX7_mintOf cX7_mintOf 2 (some .int) 0 0 [.inr (some (.inl 0)), .inl (nI s)] [.inr (6, [.inr (some (.inl 1)), .inr (some (.inl 2)), .inr (some (.inl 3)), .inr (some (.inl 4)), .inr (some (.inl 5)), .inl Rep_toldMints, .inl Rep_walls, .inl ((nI c))]), .inl (0, 8, Rep_mintX), .inl (0, 8, Rep_mintY), .inl (2, 384, Rep_wall), .inl (0, 48, Rep_mintOf), .inl (0, 48, Rep_grainsOf)] (fun r h' => r = some (.inl (-1)) ∧ h' = [.inr (6, [.inr (some (.inl 1)), .inr (some (.inl 2)), .inr (some (.inl 3)), .inr (some (.inl 4)), .inr (some (.inl 5)), .inl Rep_toldMints, .inl Rep_walls, .inl ((nI c))]), .inl (0, 8, Rep_mintX), .inl (0, 8, Rep_mintY), .inl (2, 384, Rep_wall), .inl (0, 48, Rep_mintOf), .inl (0, 48, Rep_grainsOf)]) := by
  refine m_X7_mintOf (Nat.le_of_ble_eq_true rfl) ?_
  refine call0 (c_X7_isStamp (s := s) (c := c) hc hs) rfl rfl ?_
  rintro r h' ⟨rfl, rfl⟩
  exact br_b (fun _ => ⟨rfl, rfl⟩) (fun z => absurd z hn)
set_option maxRecDepth 100000 in
theorem c_X7_grainsOf {l : Launch} {Rep_toldMints Rep_walls : Int32} {Rep_mintX Rep_mintY Rep_wall Rep_mintOf Rep_grainsOf : Nat → Int32}  {s c : Nat} (hc : c ≤ 48) (hs : s < c) : MetP l 1 yX7_grainsOf cX7_grainsOf 2 (some .int) 0 0 [.inr (some (.inl 0)), .inl (nI s)] [.inr (6, [.inr (some (.inl 1)), .inr (some (.inl 2)), .inr (some (.inl 3)), .inr (some (.inl 4)), .inr (some (.inl 5)), .inl Rep_toldMints, .inl Rep_walls, .inl ((nI c))]), .inl (0, 8, Rep_mintX), .inl (0, 8, Rep_mintY), .inl (2, 384, Rep_wall), .inl (0, 48, Rep_mintOf), .inl (0, 48, Rep_grainsOf)] (fun r h' => r = some (.inl (Rep_grainsOf s)) ∧ h' = [.inr (6, [.inr (some (.inl 1)), .inr (some (.inl 2)), .inr (some (.inl 3)), .inr (some (.inl 4)), .inr (some (.inl 5)), .inl Rep_toldMints, .inl Rep_walls, .inl ((nI c))]), .inl (0, 8, Rep_mintX), .inl (0, 8, Rep_mintY), .inl (2, 384, Rep_wall), .inl (0, 48, Rep_mintOf), .inl (0, 48, Rep_grainsOf)]) := by
  refine m_X7_grainsOf (Nat.le_of_ble_eq_true rfl) ?_
  refine call0 (c_X7_isStamp (s := s) (c := c) hc (by omega)) rfl rfl ?_
  rintro r h' ⟨rfl, rfl⟩
  refine br_b (fun z => absurd hs z) (fun _ => ?_)
  refine And.intro (vp_in_nI (n := s) (by omega) (by omega)) ?_
  rw [nI_clamp (by omega)]
  exact ⟨rfl, rfl⟩
theorem n_X7_isToldMint {l : Launch} {Rep_toldMints Rep_walls Rep_stamps : Int32} {Rep_mintX Rep_mintY Rep_wall Rep_mintOf Rep_grainsOf : Nat → Int32}  : MetP l 1 yX7_isToldMint cX7_isToldMint 2 (some .boolean) 0 0 [.inr (some (.inl 0)), .inl (-1)] [.inr (6, [.inr (some (.inl 1)), .inr (some (.inl 2)), .inr (some (.inl 3)), .inr (some (.inl 4)), .inr (some (.inl 5)), .inl Rep_toldMints, .inl Rep_walls, .inl Rep_stamps]), .inl (0, 8, Rep_mintX), .inl (0, 8, Rep_mintY), .inl (2, 384, Rep_wall), .inl (0, 48, Rep_mintOf), .inl (0, 48, Rep_grainsOf)] (fun r h' => r = some (.inl 0) ∧ h' = [.inr (6, [.inr (some (.inl 1)), .inr (some (.inl 2)), .inr (some (.inl 3)), .inr (some (.inl 4)), .inr (some (.inl 5)), .inl Rep_toldMints, .inl Rep_walls, .inl Rep_stamps]), .inl (0, 8, Rep_mintX), .inl (0, 8, Rep_mintY), .inl (2, 384, Rep_wall), .inl (0, 48, Rep_mintOf), .inl (0, 48, Rep_grainsOf)]) := by
  refine m_X7_isToldMint (Nat.le_of_ble_eq_true rfl) ?_
  refine call0 (c_within) rfl rfl ?_
  rintro r h' ⟨rfl, rfl⟩
  refine br_b (fun _ => ?_) (fun z => absurd z.1 (by decide))
  exact And.intro (Or.inl rfl) ⟨rfl, rfl⟩
set_option maxRecDepth 100000 in
theorem c_X7_isPulling {l : Launch} {Rep_walls : Int32} {Rep_mintX Rep_mintY Rep_wall Rep_mintOf Rep_grainsOf : Nat → Int32}  {fm : Nat → Nat} {s c T : Nat} (hc : c ≤ 48) (hs : s ≤ 255) (hm : ∀ s, s < c → fm s < 8 ∧ Rep_mintOf s = nI (fm s)) : MetP l 2 yX7_isPulling cX7_isPulling 2 (some .boolean) 0 0 [.inr (some (.inl 0)), .inl (nI s)] [.inr (6, [.inr (some (.inl 1)), .inr (some (.inl 2)), .inr (some (.inl 3)), .inr (some (.inl 4)), .inr (some (.inl 5)), .inl ((nI T)), .inl Rep_walls, .inl ((nI c))]), .inl (0, 8, Rep_mintX), .inl (0, 8, Rep_mintY), .inl (2, 384, Rep_wall), .inl (0, 48, Rep_mintOf), .inl (0, 48, Rep_grainsOf)] (fun r h' => r = some (.inl (bI (s < c ∧ T.testBit (fm s) = true))) ∧ h' = [.inr (6, [.inr (some (.inl 1)), .inr (some (.inl 2)), .inr (some (.inl 3)), .inr (some (.inl 4)), .inr (some (.inl 5)), .inl ((nI T)), .inl Rep_walls, .inl ((nI c))]), .inl (0, 8, Rep_mintX), .inl (0, 8, Rep_mintY), .inl (2, 384, Rep_wall), .inl (0, 48, Rep_mintOf), .inl (0, 48, Rep_grainsOf)]) := by
  refine m_X7_isPulling (Nat.le_of_ble_eq_true rfl) ?_
  by_cases q : s < c
  · refine call0 (c_X7_mintOf (s := s) (c := c) hc q) rfl rfl ?_
    rintro r h' ⟨rfl, rfl⟩
    rw [(hm s q).2]
    refine call0 (c_X7_isToldMint (m := fm s) (T := T) (hm s q).1) rfl rfl ?_
    rintro r h' ⟨rfl, rfl⟩
    exact And.intro bI_01 ⟨congrArg (fun x : Int32 => some (Sum.inl x : PV)) (bI_congr ⟨fun z => ⟨q, z⟩, fun z => z.2⟩), rfl⟩
  · refine call0 (n_X7_mintOf (s := s) (c := c) hc hs q) rfl rfl ?_
    rintro r h' ⟨rfl, rfl⟩
    refine call0 (n_X7_isToldMint) rfl rfl ?_
    rintro r h' ⟨rfl, rfl⟩
    exact And.intro (Or.inl rfl) (by rw [bI_f (fun z => q z.1)]; exact ⟨rfl, rfl⟩)
set_option maxRecDepth 100000 in
theorem c_X7_across {l : Launch} {Rep_toldMints Rep_walls : Int32} {Rep_mintX Rep_mintY Rep_wall Rep_mintOf Rep_grainsOf : Nat → Int32}  {s c m tx p : Nat} (hc : c ≤ 48) (hs : s < c) (hm : m < 8) (em : Rep_mintOf s = nI m) (eX : Rep_mintX m = nI tx) (htx : tx ≤ 23) (hp : p ≤ 383) : MetP l 2 yX7_across cX7_across 4 (some .int) 0 0 [.inr (some (.inl 0)), .inl (nI s), .inl (nI p)] [.inr (6, [.inr (some (.inl 1)), .inr (some (.inl 2)), .inr (some (.inl 3)), .inr (some (.inl 4)), .inr (some (.inl 5)), .inl Rep_toldMints, .inl Rep_walls, .inl ((nI c))]), .inl (0, 8, Rep_mintX), .inl (0, 8, Rep_mintY), .inl (2, 384, Rep_wall), .inl (0, 48, Rep_mintOf), .inl (0, 48, Rep_grainsOf)] (fun r h' => r = some (.inl (sdV (p % 24) tx)) ∧ h' = [.inr (6, [.inr (some (.inl 1)), .inr (some (.inl 2)), .inr (some (.inl 3)), .inr (some (.inl 4)), .inr (some (.inl 5)), .inl Rep_toldMints, .inl Rep_walls, .inl ((nI c))]), .inl (0, 8, Rep_mintX), .inl (0, 8, Rep_mintY), .inl (2, 384, Rep_wall), .inl (0, 48, Rep_mintOf), .inl (0, 48, Rep_grainsOf)]) := by
  have er : nI p - nI p / 24 * 24 = nI (p % 24) := rem_n (b := 24) (by omega) (by omega) (by omega)
  refine m_X7_across (Nat.le_of_ble_eq_true rfl) ?_
  refine call0 (c_X7_mintOf (s := s) (c := c) hc hs) rfl rfl ?_
  rintro r h' ⟨rfl, rfl⟩
  rw [em]
  refine call0 (c_within) rfl rfl ?_
  rintro r h' ⟨rfl, rfl⟩
  refine br_b (fun z => absurd ((nI_bt (a := 0) (b := 7) (by omega) (by omega) (by omega)).mpr ⟨by omega, by omega⟩) z) (fun _ => ?_)
  refine And.intro (show ¬ (24 : Int32) = 0 by decide) ?_
  rw [er]
  refine And.intro (vp_in_nI (n := m) (by omega) (by omega)) ?_
  rw [nI_clamp (by omega), eX]
  refine call0 (c_X11_side (a := p % 24) (b := tx) (by omega) (by omega)) rfl rfl ?_
  rintro r h' ⟨rfl, rfl⟩
  exact ⟨rfl, rfl⟩
set_option maxRecDepth 100000 in
theorem c_X7_along {l : Launch} {Rep_toldMints Rep_walls : Int32} {Rep_mintX Rep_mintY Rep_wall Rep_mintOf Rep_grainsOf : Nat → Int32}  {s c m ty p : Nat} (hc : c ≤ 48) (hs : s < c) (hm : m < 8) (em : Rep_mintOf s = nI m) (eY : Rep_mintY m = nI ty) (hty : ty ≤ 15) (hp : p ≤ 383) : MetP l 2 yX7_along cX7_along 4 (some .int) 0 0 [.inr (some (.inl 0)), .inl (nI s), .inl (nI p)] [.inr (6, [.inr (some (.inl 1)), .inr (some (.inl 2)), .inr (some (.inl 3)), .inr (some (.inl 4)), .inr (some (.inl 5)), .inl Rep_toldMints, .inl Rep_walls, .inl ((nI c))]), .inl (0, 8, Rep_mintX), .inl (0, 8, Rep_mintY), .inl (2, 384, Rep_wall), .inl (0, 48, Rep_mintOf), .inl (0, 48, Rep_grainsOf)] (fun r h' => r = some (.inl (sdV (p / 24) ty)) ∧ h' = [.inr (6, [.inr (some (.inl 1)), .inr (some (.inl 2)), .inr (some (.inl 3)), .inr (some (.inl 4)), .inr (some (.inl 5)), .inl Rep_toldMints, .inl Rep_walls, .inl ((nI c))]), .inl (0, 8, Rep_mintX), .inl (0, 8, Rep_mintY), .inl (2, 384, Rep_wall), .inl (0, 48, Rep_mintOf), .inl (0, 48, Rep_grainsOf)]) := by
  have ed : nI p / 24 = nI (p / 24) := div_n (b := 24) (by omega) (by omega) (by omega)
  refine m_X7_along (Nat.le_of_ble_eq_true rfl) ?_
  refine call0 (c_X7_mintOf (s := s) (c := c) hc hs) rfl rfl ?_
  rintro r h' ⟨rfl, rfl⟩
  rw [em]
  refine call0 (c_within) rfl rfl ?_
  rintro r h' ⟨rfl, rfl⟩
  refine br_b (fun z => absurd ((nI_bt (a := 0) (b := 7) (by omega) (by omega) (by omega)).mpr ⟨by omega, by omega⟩) z) (fun _ => ?_)
  refine And.intro (show ¬ (24 : Int32) = 0 by decide) ?_
  rw [ed]
  refine And.intro (vp_in_nI (n := m) (by omega) (by omega)) ?_
  rw [nI_clamp (by omega), eY]
  refine call0 (c_X11_side (a := p / 24) (b := ty) (by omega) (by omega)) rfl rfl ?_
  rintro r h' ⟨rfl, rfl⟩
  exact ⟨rfl, rfl⟩
set_option maxRecDepth 100000 in
theorem c_X1_pullTogether {l : Launch} {Crew_acrossSum Crew_alongSum Rep_toldMints Rep_walls : Int32} {Crew_members Rep_mintX Rep_mintY Rep_wall Rep_mintOf Rep_grainsOf : Nat → Int32}  {K : Int32} {B : Nat → Bool} {s tw tx ty : Nat → Nat} {n c p : Nat} (hn : n ≤ 9) (hc : c ≤ 48) (hp : p ≤ 383) (hB : ∀ i, i < n → (hasB K (nI i) ↔ B i = true)) (hM : crC c Crew_members Rep_mintOf Rep_grainsOf Rep_mintX Rep_mintY s tw tx ty n) : MetP l 3 yX1_pullTogether cX1_pullTogether 5 none 0 0 [.inr (some (.inl 0)), .inl K, .inl (nI p)] [.inr (1, [.inr (some (.inl 2)), .inr (some (.inl 1)), .inl ((nI n)), .inl Crew_acrossSum, .inl Crew_alongSum]), .inl (0, 9, Crew_members), .inr (6, [.inr (some (.inl 3)), .inr (some (.inl 4)), .inr (some (.inl 5)), .inr (some (.inl 6)), .inr (some (.inl 7)), .inl Rep_toldMints, .inl Rep_walls, .inl ((nI c))]), .inl (0, 8, Rep_mintX), .inl (0, 8, Rep_mintY), .inl (2, 384, Rep_wall), .inl (0, 48, Rep_mintOf), .inl (0, 48, Rep_grainsOf)] (fun r h' => r = none ∧ h' = [.inr (1, [.inr (some (.inl 2)), .inr (some (.inl 1)), .inl ((nI n)), .inl ((plB (tA tw tx p) B n)), .inl ((plB (tL tw ty p) B n))]), .inl (0, 9, Crew_members), .inr (6, [.inr (some (.inl 3)), .inr (some (.inl 4)), .inr (some (.inl 5)), .inr (some (.inl 6)), .inr (some (.inl 7)), .inl Rep_toldMints, .inl Rep_walls, .inl ((nI c))]), .inl (0, 8, Rep_mintX), .inl (0, 8, Rep_mintY), .inl (2, 384, Rep_wall), .inl (0, 48, Rep_mintOf), .inl (0, 48, Rep_grainsOf)]) := by
  refine m_X1_pullTogether (fun μ L st h => ∃ (i : Nat) (z : Option PV), μ = n - i ∧ i ≤ n ∧ L = [some (.inr (some (.inl 0))), some (.inl K), some (.inl (nI p)), some (.inl (nI i)), z] ∧ st = [] ∧ h = [.inr (1, [.inr (some (.inl 2)), .inr (some (.inl 1)), .inl ((nI n)), .inl ((plB (tA tw tx p) B i)), .inl ((plB (tL tw ty p) B i))]), .inl (0, 9, Crew_members), .inr (6, [.inr (some (.inl 3)), .inr (some (.inl 4)), .inr (some (.inl 5)), .inr (some (.inl 6)), .inr (some (.inl 7)), .inl Rep_toldMints, .inl Rep_walls, .inl ((nI c))]), .inl (0, 8, Rep_mintX), .inl (0, 8, Rep_mintY), .inl (2, 384, Rep_wall), .inl (0, 48, Rep_mintOf), .inl (0, 48, Rep_grainsOf)]) (Nat.le_of_ble_eq_true rfl) ?_ ?_
  · exact ⟨_, 0, none, rfl, by omega, rfl, rfl, rfl⟩
  · rintro μ L st h ⟨i, z, hμ, h1, rfl, rfl, rfl⟩
    refine And.intro (fun q1 => ?_) (fun q1 => ?_)
    · have q1 := (nI_leI (by omega) (by omega)).mp q1
      obtain rfl : i = n := by omega
      exact ⟨rfl, rfl⟩
    · have q1 : i < n := Nat.lt_of_not_le fun z => q1 ((nI_leI (by omega) (by omega)).mpr z)
      refine And.intro (fun z => absurd ((nI_leI (a := 9) (by omega) (by omega)).mp z) (by omega)) (fun _ => ?_)
      obtain ⟨m1, m2, m, m3, m4, m5, m6, m7, m8, m9, _⟩ := hM i q1
      refine And.intro (fun (w : hasB K (nI i)) => ?_) (fun (w : ¬ hasB K (nI i)) => ?_)
      · have w := (hB i q1).mp w
        have ea : plB (tA tw tx p) B (i + 1) = f_add (plB (tA tw tx p) B i) (f_mul (nI (tw i)) (sdV (p % 24) (tx i))) := if_pos w
        have eb : plB (tL tw ty p) B (i + 1) = f_add (plB (tL tw ty p) B i) (f_mul (nI (tw i)) (sdV (p / 24) (ty i))) := if_pos w
        refine And.intro (vp_in_nI (n := i) (by omega) (by omega)) ?_
        rw [nI_clamp (by omega), m1]
        refine call0 (c_X7_grainsOf (s := s i) (c := c) hc m2) rfl rfl ?_
        rintro r h' ⟨rfl, rfl⟩
        rw [m5]
        refine call0 (c_X7_across (s := s i) (c := c) (m := m) (tx := tx i) (p := p) hc m2 m3 m4 m6 m8 hp) rfl rfl ?_
        rintro r h' ⟨rfl, rfl⟩
        refine call0 (c_X7_grainsOf (s := s i) (c := c) hc m2) rfl rfl ?_
        rintro r h' ⟨rfl, rfl⟩
        rw [m5]
        refine call0 (c_X7_along (s := s i) (c := c) (m := m) (ty := ty i) (p := p) hc m2 m3 m4 m7 m9 hp) rfl rfl ?_
        rintro r h' ⟨rfl, rfl⟩
        exact ⟨n - (i + 1), by omega, i + 1, _, rfl, by omega, by rw [← nI_1 i] <;> rfl, rfl, by rw [ea, eb]⟩
      · have w : ¬ B i = true := fun z => w ((hB i q1).mpr z)
        have ea : plB (tA tw tx p) B (i + 1) = plB (tA tw tx p) B i := if_neg w
        have eb : plB (tL tw ty p) B (i + 1) = plB (tL tw ty p) B i := if_neg w
        exact ⟨n - (i + 1), by omega, i + 1, _, rfl, by omega, by rw [← nI_1 i] <;> rfl, rfl, by rw [ea, eb]⟩
/-! which sets: how many, and the first with the fewest -/
def wcG (P : Nat → Bool) : Nat → Nat
  | 0 => 0
  | j + 1 => wcG P j + (if P j = true then 1 else 0)
theorem wcG_le {P : Nat → Bool} : ∀ j, wcG P j ≤ j
  | 0 => Nat.le_refl _
  | j + 1 => by
    have h := wcG_le (P := P) j
    unfold wcG
    split <;> omega
def fewS (b : Option Nat) (j : Nat) : Nat := match b with
  | none => j
  | some x => if pcN j 12 < pcN x 12 then j else x
def bsG (P : Nat → Bool) : Nat → Option Nat
  | 0 => none
  | j + 1 => if P j = true then some (fewS (bsG P j) j) else bsG P j
def fwV (b : Option Nat) : Int32 := match b with
  | none => -2
  | some x => nI x
theorem bsG_lt {P : Nat → Bool} : ∀ {j b : Nat}, bsG P j = some b → b < j ∧ P b = true
  | 0, b, h => by cases h
  | j + 1, b, h => by
    unfold bsG at h
    split at h
    · rename_i hp
      have h := Option.some.inj h
      subst h
      cases e : bsG P j with
      | none => exact ⟨Nat.lt_succ_self j, hp⟩
      | some x =>
        have := bsG_lt e
        show (if pcN j 12 < pcN x 12 then j else x) < j + 1 ∧ P (if pcN j 12 < pcN x 12 then j else x) = true
        split
        · exact ⟨Nat.lt_succ_self j, hp⟩
        · exact ⟨by omega, this.2⟩
    · have := bsG_lt h
      exact ⟨by omega, this.2⟩
theorem n2_n {b : Nat} (hb : b < 4096) : ¬ nI b = -2 := fun z => by
  have := congrArg Int32.toInt z
  rw [nI_toInt (by omega)] at this
  have e : (-2 : Int32).toInt = -2 := rfl
  omega
set_option maxRecDepth 100000 in
theorem c_X1_fewer {l : Launch} {b : Option Nat} {j : Nat} (hj : j < 4096) (hb : ∀ x, b = some x → x < 4096) : MetP l 1 yX1_fewer cX1_fewer 2 (some .int) 0 0 [.inl (fwV b), .inl (nI j)] [] (fun r h' => r = some (.inl (nI (fewS b j))) ∧ h' = []) := by
  refine m_X1_fewer (Nat.le_of_ble_eq_true rfl) ?_
  cases b with
  | none => exact And.intro (fun _ => ⟨rfl, rfl⟩) (fun z => absurd rfl z)
  | some x =>
    have hx := hb x rfl
    have p1 := pcN_le (S := j) 12
    have p2 := pcN_le (S := x) 12
    refine And.intro (fun z => absurd z (n2_n hx)) (fun _ => ?_)
    refine call0 (c_bitCount hj) rfl rfl ?_
    rintro r h' ⟨rfl, rfl⟩
    refine call0 (c_bitCount hx) rfl rfl ?_
    rintro r h' ⟨rfl, rfl⟩
    refine And.intro (fun q => ?_) (fun q => ?_)
    · have q := (nI_leI (by omega) (by omega)).mp q
      have e : fewS (some x) j = x := if_neg (by omega)
      rw [e]
      exact ⟨rfl, rfl⟩
    · have q : pcN j 12 < pcN x 12 := Nat.lt_of_not_le fun z => q ((nI_leI (by omega) (by omega)).mpr z)
      have e : fewS (some x) j = j := if_pos q
      rw [e]
      exact ⟨rfl, rfl⟩
def lsB (b : Option Nat) (j : Nat) : Bool := match b with
  | none => true
  | some x => decide (pcN j 12 < pcN x 12)
theorem fw_t {b : Option Nat} {j : Nat} (h : lsB b j = true) : fewS b j = j := by
  cases b with
  | none => rfl
  | some x => exact if_pos (of_decide_eq_true h)
theorem fw_f {b : Option Nat} {j : Nat} (h : ¬ lsB b j = true) : some (fewS b j) = b := by
  cases b with
  | none => exact absurd rfl h
  | some x => exact congrArg some (if_neg (fun z => h (decide_eq_true z)))
theorem e_X12_isLess {l : Launch} {b : Option Nat} {j : Nat} (hb : ∀ x, b = some x → x < 4096) : MetP l 1 yX12_isLess cX12_isLess 2 (some .boolean) 0 0 [.inl (nI j), .inl (fwV b)] [] (fun r h' => r = some (.inl (bI (lsB b j = true))) ∧ h' = []) := by
  refine m_X12_isLess (Nat.le_of_ble_eq_true rfl) ?_
  cases b with
  | none => exact And.intro (fun _ => And.intro (Or.inr rfl) (by rw [bI_t (show lsB none j = true from rfl)]; exact ⟨rfl, rfl⟩)) (fun z => absurd rfl z)
  | some x =>
    have hx := hb x rfl
    have p1 := pcN_le (S := j) 12
    have p2 := pcN_le (S := x) 12
    refine And.intro (fun z => absurd z (n2_n hx)) (fun _ => ?_)
    refine call0 (e_X12_bits (S := j)) rfl rfl ?_
    rintro r h' ⟨rfl, rfl⟩
    refine call0 (e_X12_bits (S := x)) rfl rfl ?_
    rintro r h' ⟨rfl, rfl⟩
    refine And.intro (fun q => ?_) (fun q => ?_)
    · have q := (nI_leI (by omega) (by omega)).mp q
      exact And.intro (Or.inl rfl) (by rw [bI_f (fun z => by have := of_decide_eq_true z; omega)]; exact ⟨rfl, rfl⟩)
    · have q : pcN j 12 < pcN x 12 := Nat.lt_of_not_le fun z => q ((nI_leI (by omega) (by omega)).mpr z)
      exact And.intro (Or.inr rfl) (by rw [bI_t (show lsB (some x) j = true from decide_eq_true q)]; exact ⟨rfl, rfl⟩)
/-! gathering them -/
def alW (c T : Nat) (fm o : Nat → Nat) : Nat → Bool
  | 0 => true
  | i + 1 => alW c T fm o i && (decide (o i < c) && T.testBit (fm (o i)))
theorem alW_i {c T : Nat} {fm o : Nat → Nat} : ∀ {n i : Nat}, alW c T fm o n = true → i < n → o i < c ∧ T.testBit (fm (o i)) = true
  | 0, i, _, hi => absurd hi (Nat.not_lt_zero _)
  | n + 1, i, h, hi => by
    unfold alW at h
    rw [Bool.and_eq_true, Bool.and_eq_true] at h
    rcases (by omega : i = n ∨ i < n) with rfl | q
    · exact ⟨of_decide_eq_true h.2.1, h.2.2⟩
    · exact alW_i h.1 q
theorem alW_f {c T : Nat} {fm o : Nat → Nat} {n i : Nat} (hi : i < n) (hn : ¬ (o i < c ∧ T.testBit (fm (o i)) = true)) : alW c T fm o n = false := by
  rw [Bool.eq_false_iff]
  exact fun z => hn (alW_i z hi)
theorem alW_s {c T : Nat} {fm o : Nat → Nat} {i : Nat} (h : alW c T fm o i = true) (hy : o i < c ∧ T.testBit (fm (o i)) = true) : alW c T fm o (i + 1) = true := by
  unfold alW
  rw [h, decide_eq_true hy.1, hy.2]
  rfl
set_option maxRecDepth 100000 in
theorem c_X1_gather {l : Launch} {Crew_size Crew_acrossSum Crew_alongSum Rep_walls : Int32} {Crew_members Rep_mintX Rep_mintY Rep_wall Rep_mintOf Rep_grainsOf Tape_bytes : Nat → Int32}  {o fm : Nat → Nat} {n t c T : Nat} (hn : n ≤ 9) (ht : t ≤ 260) (hnt : n ≤ t) (hc : c ≤ 48) (hm : ∀ s, s < c → fm s < 8 ∧ Rep_mintOf s = nI (fm s)) (hb : ∀ i, i < n → o i ≤ 255 ∧ Tape_bytes i = nI (o i)) : MetP l 3 yX1_gather cX1_gather 5 (some .boolean) 0 0 [.inr (some (.inl 0)), .inr (some (.inl 8)), .inl (nI n)] [.inr (1, [.inr (some (.inl 2)), .inr (some (.inl 1)), .inl Crew_size, .inl Crew_acrossSum, .inl Crew_alongSum]), .inl (0, 9, Crew_members), .inr (6, [.inr (some (.inl 3)), .inr (some (.inl 4)), .inr (some (.inl 5)), .inr (some (.inl 6)), .inr (some (.inl 7)), .inl ((nI T)), .inl Rep_walls, .inl ((nI c))]), .inl (0, 8, Rep_mintX), .inl (0, 8, Rep_mintY), .inl (2, 384, Rep_wall), .inl (0, 48, Rep_mintOf), .inl (0, 48, Rep_grainsOf), .inr (9, [.inr (some (.inl 9)), .inl ((nI t))]), .inl (0, 260, Tape_bytes)] (fun r h' => ∃ (k : Nat) (mb : Nat → Int32), k ≤ 9 ∧ ((r = some (.inl 0) ∧ alW c T fm o n = false) ∨ (r = some (.inl 1) ∧ alW c T fm o n = true ∧ k = n ∧ ∀ i, i < n → mb i = nI (o i))) ∧ h' = [.inr (1, [.inr (some (.inl 2)), .inr (some (.inl 1)), .inl ((nI k)), .inl Crew_acrossSum, .inl Crew_alongSum]), .inl (0, 9, mb), .inr (6, [.inr (some (.inl 3)), .inr (some (.inl 4)), .inr (some (.inl 5)), .inr (some (.inl 6)), .inr (some (.inl 7)), .inl ((nI T)), .inl Rep_walls, .inl ((nI c))]), .inl (0, 8, Rep_mintX), .inl (0, 8, Rep_mintY), .inl (2, 384, Rep_wall), .inl (0, 48, Rep_mintOf), .inl (0, 48, Rep_grainsOf), .inr (9, [.inr (some (.inl 9)), .inl ((nI t))]), .inl (0, 260, Tape_bytes)]) := by
  refine m_X1_gather (fun μ L st h => ∃ (i : Nat) (mb : Nat → Int32) (z : Option PV), μ = n - i ∧ i ≤ n ∧ alW c T fm o i = true ∧ (∀ j, j < i → mb j = nI (o j)) ∧ L = [some (.inr (some (.inl 0))), some (.inr (some (.inl 8))), some (.inl (nI n)), some (.inl (nI i)), z] ∧ st = [] ∧ h = [.inr (1, [.inr (some (.inl 2)), .inr (some (.inl 1)), .inl ((nI i)), .inl Crew_acrossSum, .inl Crew_alongSum]), .inl (0, 9, mb), .inr (6, [.inr (some (.inl 3)), .inr (some (.inl 4)), .inr (some (.inl 5)), .inr (some (.inl 6)), .inr (some (.inl 7)), .inl ((nI T)), .inl Rep_walls, .inl ((nI c))]), .inl (0, 8, Rep_mintX), .inl (0, 8, Rep_mintY), .inl (2, 384, Rep_wall), .inl (0, 48, Rep_mintOf), .inl (0, 48, Rep_grainsOf), .inr (9, [.inr (some (.inl 9)), .inl ((nI t))]), .inl (0, 260, Tape_bytes)]) (Nat.le_of_ble_eq_true rfl) ?_ ?_
  · exact ⟨_, 0, Crew_members, none, rfl, by omega, rfl, fun j hj => absurd hj (Nat.not_lt_zero _), rfl, rfl, rfl⟩
  · rintro μ L st h ⟨i, mb, z, hμ, h1, h2, h3, rfl, rfl, rfl⟩
    refine And.intro (fun q1 => ?_) (fun q1 => ?_)
    · have q1 := (nI_leI (by omega) (by omega)).mp q1
      obtain rfl : i = n := by omega
      exact And.intro (Or.inr rfl) ⟨i, mb, hn, Or.inr ⟨rfl, h2, rfl, h3⟩, rfl⟩
    · have q1 : i < n := Nat.lt_of_not_le fun z => q1 ((nI_leI (by omega) (by omega)).mpr z)
      refine And.intro (fun z => absurd ((nI_leI (a := 9) (by omega) (by omega)).mp z) (by omega)) (fun _ => ?_)
      obtain ⟨o1, o2⟩ := hb i q1
      refine call0 (c_X10_at (s := t) (k := i) ht (by omega)) rfl rfl ?_
      rintro r h' ⟨rfl, rfl⟩
      rw [o2]
      refine call0 (c_X7_isPulling (fm := fm) (s := o i) (c := c) (T := T) hc o1 hm) rfl rfl ?_
      rintro r h' ⟨rfl, rfl⟩
      refine br_b (fun w => ?_) (fun w => ?_)
      · exact And.intro (Or.inl rfl) ⟨i, mb, by omega, Or.inl ⟨rfl, alW_f q1 w⟩, rfl⟩
      · refine And.intro (vp_in_nI (n := i) (by omega) (by omega)) ?_
        rw [nI_clamp (by omega)]
        exact ⟨n - (i + 1), by omega, i + 1, upd mb i (nI (o i)), _, rfl, by omega, alW_s h2 w, fun j hj => by
          by_cases q : j = i
          · subst q
            exact upd_sI
          · rw [upd_nI q]
            exact h3 j (by omega), by rw [← nI_1 i] <;> rfl, rfl, by rw [← nI_1 i] <;> rfl⟩
set_option maxRecDepth 100000 in
theorem c_X11_gatherCrew {l : Launch} {HS_now HS_kept HS_trial HS_clerk HS_riddles HS_sheetReader HS_postReader HS_lawReader HS_seen HS_rules HS_spareRules : List (Option Nat)} {HS_wasKept Crew_size Crew_acrossSum Crew_alongSum Rep_walls : Int32} {Tape_bytes Crew_members Rep_mintX Rep_mintY Rep_wall Rep_mintOf Rep_grainsOf : Nat → Int32}  {o fm : Nat → Nat} {n t c T : Nat} (hn : n ≤ 9) (ht : t ≤ 260) (hnt : n ≤ t) (hc : c ≤ 48) (hm : ∀ s, s < c → fm s < 8 ∧ Rep_mintOf s = nI (fm s)) (hb : ∀ i, i < n → o i ≤ 255 ∧ Tape_bytes i = nI (o i)) : MetP l 4 yX11_gatherCrew cX11_gatherCrew 3 (some .boolean) 0 0 [.inr (some (.inl 0)), .inl (nI n)] [.inr (10, [.inr (some (.inl 1)), .inr (some (.inl 5)), .inr (some (.inr HS_now)), .inr (some (.inr HS_kept)), .inr (some (.inr HS_trial)), .inr (some (.inr HS_clerk)), .inr (some (.inl 3)), .inr (some (.inr HS_riddles)), .inr (some (.inr HS_sheetReader)), .inr (some (.inr HS_postReader)), .inr (some (.inr HS_lawReader)), .inr (some (.inr HS_seen)), .inr (some (.inr HS_rules)), .inr (some (.inr HS_spareRules)), .inl HS_wasKept]), .inr (9, [.inr (some (.inl 2)), .inl ((nI t))]), .inl (0, 260, Tape_bytes), .inr (1, [.inr (some (.inl 5)), .inr (some (.inl 4)), .inl Crew_size, .inl Crew_acrossSum, .inl Crew_alongSum]), .inl (0, 9, Crew_members), .inr (6, [.inr (some (.inl 6)), .inr (some (.inl 7)), .inr (some (.inl 8)), .inr (some (.inl 9)), .inr (some (.inl 10)), .inl ((nI T)), .inl Rep_walls, .inl ((nI c))]), .inl (0, 8, Rep_mintX), .inl (0, 8, Rep_mintY), .inl (2, 384, Rep_wall), .inl (0, 48, Rep_mintOf), .inl (0, 48, Rep_grainsOf)] (fun r h' => ∃ (k : Nat) (mb : Nat → Int32), k ≤ 9 ∧ ((r = some (.inl 0) ∧ alW c T fm o n = false) ∨ (r = some (.inl 1) ∧ alW c T fm o n = true ∧ k = n ∧ ∀ i, i < n → mb i = nI (o i))) ∧ h' = [.inr (10, [.inr (some (.inl 1)), .inr (some (.inl 5)), .inr (some (.inr HS_now)), .inr (some (.inr HS_kept)), .inr (some (.inr HS_trial)), .inr (some (.inr HS_clerk)), .inr (some (.inl 3)), .inr (some (.inr HS_riddles)), .inr (some (.inr HS_sheetReader)), .inr (some (.inr HS_postReader)), .inr (some (.inr HS_lawReader)), .inr (some (.inr HS_seen)), .inr (some (.inr HS_rules)), .inr (some (.inr HS_spareRules)), .inl HS_wasKept]), .inr (9, [.inr (some (.inl 2)), .inl 0]), .inl (0, 260, Tape_bytes), .inr (1, [.inr (some (.inl 5)), .inr (some (.inl 4)), .inl ((nI k)), .inl Crew_acrossSum, .inl Crew_alongSum]), .inl (0, 9, mb), .inr (6, [.inr (some (.inl 6)), .inr (some (.inl 7)), .inr (some (.inl 8)), .inr (some (.inl 9)), .inr (some (.inl 10)), .inl ((nI T)), .inl Rep_walls, .inl ((nI c))]), .inl (0, 8, Rep_mintX), .inl (0, 8, Rep_mintY), .inl (2, 384, Rep_wall), .inl (0, 48, Rep_mintOf), .inl (0, 48, Rep_grainsOf)]) := by
  refine m_X11_gatherCrew (Nat.le_of_ble_eq_true rfl) ?_
  refine call0 (c_X1_gather (o := o) (fm := fm) (n := n) (t := t) (c := c) (T := T) hn ht hnt hc hm hb) rfl rfl ?_
  rintro r h' ⟨k, mb, k9, hp, rfl⟩
  rcases hp with ⟨rfl, hf⟩ | ⟨rfl, ht', ek, hmb⟩
  · refine call0 (c_X10_empty) rfl rfl ?_
    rintro r h' ⟨rfl, rfl⟩
    exact And.intro (Or.inl rfl) ⟨k, mb, k9, Or.inl ⟨rfl, hf⟩, rfl⟩
  · refine call0 (c_X10_empty) rfl rfl ?_
    rintro r h' ⟨rfl, rfl⟩
    exact And.intro (Or.inr rfl) ⟨k, mb, k9, Or.inr ⟨rfl, ht', ek, hmb⟩, rfl⟩
/-! the other side's members -/
theorem isS_n {s c : Nat} (hs : s ≤ 255) (hc : c ≤ 48) : ((0 : Int32) ≤ nI s ∧ nI s ≤ f_sub (nI c) 1) ↔ s < c := by
  have e : (f_sub (nI c) 1).toInt = (c : Int) - ((1 : Nat) : Int) := sub_i (a := c) (b := 1) (by omega) (by omega)
  have z0 : (0 : Int32).toInt = 0 := rfl
  rw [Int32.le_iff_toInt_le, Int32.le_iff_toInt_le, e, z0, nI_toInt (by omega)]
  omega
theorem g_X12_sign {l : Launch} {K : Int32} {a b : Nat} (eK : K = f_sub (nI a) (nI b)) (ha : a < 100000) (hb : b < 100000) : MetP l 0 yX12_sign cX12_sign 1 (some .int) 0 0 [.inl K] [] (fun r h' => r = some (.inl (sdV b a)) ∧ h' = []) := by
  have e := lt0 ha hb
  rw [← eK] at e
  clear eK
  refine m_X12_sign (Nat.le_of_ble_eq_true rfl) ?_
  unfold sdV
  refine And.intro (fun (q : (0 : Int32) ≤ K) => ?_) (fun (q : ¬ (0 : Int32) ≤ K) => ?_)
  · have q := e.2.mp q
    refine And.intro (fun (r : K ≤ 0) => ?_) (fun (r : ¬ K ≤ 0) => ?_)
    · have r := e.1.mp r
      rw [if_pos (by omega)]
      exact ⟨rfl, rfl⟩
    · have r : ¬ a ≤ b := fun z => r (e.1.mpr z)
      rw [if_neg (by omega), if_neg (by omega)]
      exact ⟨rfl, rfl⟩
  · have q : ¬ b ≤ a := fun z => q (e.2.mpr z)
    rw [if_neg (by omega), if_pos (by omega)]
    exact ⟨rfl, rfl⟩
theorem e_X12_acrossTo {l : Launch} {p q : Nat} (hp : p ≤ 383) (hq : q ≤ 383) : MetP l 1 yX12_acrossTo cX12_acrossTo 2 (some .int) 0 0 [.inl (nI p), .inl (nI q)] [] (fun r h' => r = some (.inl (sdV (p % 24) (q % 24))) ∧ h' = []) := by
  have e1 : nI p - nI p / 24 * 24 = nI (p % 24) := rem_n (b := 24) (by omega) (by omega) (by omega)
  have e2 : nI q - nI q / 24 * 24 = nI (q % 24) := rem_n (b := 24) (by omega) (by omega) (by omega)
  refine m_X12_acrossTo (Nat.le_of_ble_eq_true rfl) ?_
  refine And.intro (show ¬ (24 : Int32) = 0 by decide) ?_
  refine And.intro (show ¬ (24 : Int32) = 0 by decide) ?_
  refine call0 (g_X12_sign (a := q % 24) (b := p % 24) (congr (congrArg f_sub e2) e1) (by omega) (by omega)) rfl rfl ?_
  rintro r h' ⟨rfl, rfl⟩
  exact ⟨rfl, rfl⟩
theorem e_X12_alongTo {l : Launch} {p q : Nat} (hp : p ≤ 383) (hq : q ≤ 383) : MetP l 1 yX12_alongTo cX12_alongTo 2 (some .int) 0 0 [.inl (nI p), .inl (nI q)] [] (fun r h' => r = some (.inl (sdV (p / 24) (q / 24))) ∧ h' = []) := by
  have e1 : nI p / 24 = nI (p / 24) := div_n (b := 24) (by omega) (by omega) (by omega)
  have e2 : nI q / 24 = nI (q / 24) := div_n (b := 24) (by omega) (by omega) (by omega)
  refine m_X12_alongTo (Nat.le_of_ble_eq_true rfl) ?_
  refine And.intro (show ¬ (24 : Int32) = 0 by decide) ?_
  refine And.intro (show ¬ (24 : Int32) = 0 by decide) ?_
  refine call0 (g_X12_sign (a := q / 24) (b := p / 24) (congr (congrArg f_sub e2) e1) (by omega) (by omega)) rfl rfl ?_
  rintro r h' ⟨rfl, rfl⟩
  exact ⟨rfl, rfl⟩
theorem e_X12_pullA {l : Launch} {M_now M_aside M_kept M_isWall M_wasWall M_tape M_said M_waitsAt M_saidLetter M_saidFrom M_saidHalf M_saidTo M_codes M_clauseOf M_codeFrom M_codeHalf M_codeTo M_stack M_facts M_newStamps M_roundFrom M_roundAt M_roundTimes M_usesNow M_wasAt M_fewestFor M_getsOf : List (Option Nat)} {M_stampMany M_taped M_place0 M_length0 M_fault M_number0 M_open M_codeMany M_waiting M_saidMany M_clauses M_newMany M_rounds M_stampFrom M_stampTimes M_lines M_spot0 M_pullAcross M_pullAlong M_stepsNow M_fallenNow M_isKept : Int32} {M_mintAt M_mintOf M_wholeOf M_someOf : Nat → Int32}  {K : Int32} {B : Nat → Bool} {s tw tx ty : Nat → Nat} {n p : Nat} (hn : n ≤ 9) (hp : p ≤ 383) (hB : ∀ i, i < n → (hasB K (nI i) ↔ B i = true)) (hM : crR M_someOf M_mintOf M_wholeOf M_mintAt s tw tx ty n) : MetP l 2 yX12_pullOf cX12_pullOf 8 (some .int) 0 0 [.inr (some (.inl 0)), .inl K, .inl (nI n), .inl (nI p), .inl 1] [.inr (11, [.inr (some (.inr M_now)), .inr (some (.inr M_aside)), .inr (some (.inr M_kept)), .inr (some (.inl 1)), .inr (some (.inl 2)), .inr (some (.inl 3)), .inr (some (.inr M_isWall)), .inr (some (.inr M_wasWall)), .inl M_stampMany, .inr (some (.inr M_tape)), .inl M_taped, .inl M_place0, .inl M_length0, .inl M_fault, .inl M_number0, .inl M_open, .inl M_codeMany, .inl M_waiting, .inl M_saidMany, .inl M_clauses, .inr (some (.inr M_said)), .inr (some (.inr M_waitsAt)), .inr (some (.inr M_saidLetter)), .inr (some (.inr M_saidFrom)), .inr (some (.inr M_saidHalf)), .inr (some (.inr M_saidTo)), .inr (some (.inr M_codes)), .inr (some (.inr M_clauseOf)), .inr (some (.inr M_codeFrom)), .inr (some (.inr M_codeHalf)), .inr (some (.inr M_codeTo)), .inr (some (.inr M_stack)), .inr (some (.inr M_facts)), .inr (some (.inr M_newStamps)), .inr (some (.inr M_roundFrom)), .inr (some (.inr M_roundAt)), .inr (some (.inr M_roundTimes)), .inl M_newMany, .inl M_rounds, .inl M_stampFrom, .inl M_stampTimes, .inl M_lines, .inl M_spot0, .inl M_pullAcross, .inl M_pullAlong, .inl M_stepsNow, .inl M_fallenNow, .inr (some (.inr M_usesNow)), .inr (some (.inr M_wasAt)), .inr (some (.inl 4)), .inr (some (.inr M_fewestFor)), .inr (some (.inr M_getsOf)), .inl M_isKept]), .inl (0, 8, M_mintAt), .inl (0, 48, M_mintOf), .inl (0, 48, M_wholeOf), .inl (0, 9, M_someOf)] (fun r h' => r = some (.inl (plB (tA tw tx p) B n)) ∧ h' = [.inr (11, [.inr (some (.inr M_now)), .inr (some (.inr M_aside)), .inr (some (.inr M_kept)), .inr (some (.inl 1)), .inr (some (.inl 2)), .inr (some (.inl 3)), .inr (some (.inr M_isWall)), .inr (some (.inr M_wasWall)), .inl M_stampMany, .inr (some (.inr M_tape)), .inl M_taped, .inl M_place0, .inl M_length0, .inl M_fault, .inl M_number0, .inl M_open, .inl M_codeMany, .inl M_waiting, .inl M_saidMany, .inl M_clauses, .inr (some (.inr M_said)), .inr (some (.inr M_waitsAt)), .inr (some (.inr M_saidLetter)), .inr (some (.inr M_saidFrom)), .inr (some (.inr M_saidHalf)), .inr (some (.inr M_saidTo)), .inr (some (.inr M_codes)), .inr (some (.inr M_clauseOf)), .inr (some (.inr M_codeFrom)), .inr (some (.inr M_codeHalf)), .inr (some (.inr M_codeTo)), .inr (some (.inr M_stack)), .inr (some (.inr M_facts)), .inr (some (.inr M_newStamps)), .inr (some (.inr M_roundFrom)), .inr (some (.inr M_roundAt)), .inr (some (.inr M_roundTimes)), .inl M_newMany, .inl M_rounds, .inl M_stampFrom, .inl M_stampTimes, .inl M_lines, .inl M_spot0, .inl M_pullAcross, .inl M_pullAlong, .inl M_stepsNow, .inl M_fallenNow, .inr (some (.inr M_usesNow)), .inr (some (.inr M_wasAt)), .inr (some (.inl 4)), .inr (some (.inr M_fewestFor)), .inr (some (.inr M_getsOf)), .inl M_isKept]), .inl (0, 8, M_mintAt), .inl (0, 48, M_mintOf), .inl (0, 48, M_wholeOf), .inl (0, 9, M_someOf)]) := by
  refine m_X12_pullOf (fun μ L st h => ∃ (i : Nat) (z : Option PV), μ = n - i ∧ i ≤ n ∧ L = [some (.inr (some (.inl 0))), some (.inl K), some (.inl (nI n)), some (.inl (nI p)), some (.inl 1), some (.inl (plB (tA tw tx p) B i)), some (.inl (nI i)), z] ∧ st = [] ∧ h = [.inr (11, [.inr (some (.inr M_now)), .inr (some (.inr M_aside)), .inr (some (.inr M_kept)), .inr (some (.inl 1)), .inr (some (.inl 2)), .inr (some (.inl 3)), .inr (some (.inr M_isWall)), .inr (some (.inr M_wasWall)), .inl M_stampMany, .inr (some (.inr M_tape)), .inl M_taped, .inl M_place0, .inl M_length0, .inl M_fault, .inl M_number0, .inl M_open, .inl M_codeMany, .inl M_waiting, .inl M_saidMany, .inl M_clauses, .inr (some (.inr M_said)), .inr (some (.inr M_waitsAt)), .inr (some (.inr M_saidLetter)), .inr (some (.inr M_saidFrom)), .inr (some (.inr M_saidHalf)), .inr (some (.inr M_saidTo)), .inr (some (.inr M_codes)), .inr (some (.inr M_clauseOf)), .inr (some (.inr M_codeFrom)), .inr (some (.inr M_codeHalf)), .inr (some (.inr M_codeTo)), .inr (some (.inr M_stack)), .inr (some (.inr M_facts)), .inr (some (.inr M_newStamps)), .inr (some (.inr M_roundFrom)), .inr (some (.inr M_roundAt)), .inr (some (.inr M_roundTimes)), .inl M_newMany, .inl M_rounds, .inl M_stampFrom, .inl M_stampTimes, .inl M_lines, .inl M_spot0, .inl M_pullAcross, .inl M_pullAlong, .inl M_stepsNow, .inl M_fallenNow, .inr (some (.inr M_usesNow)), .inr (some (.inr M_wasAt)), .inr (some (.inl 4)), .inr (some (.inr M_fewestFor)), .inr (some (.inr M_getsOf)), .inl M_isKept]), .inl (0, 8, M_mintAt), .inl (0, 48, M_mintOf), .inl (0, 48, M_wholeOf), .inl (0, 9, M_someOf)]) (Nat.le_of_ble_eq_true rfl) ?_ ?_
  · exact ⟨_, 0, none, rfl, by omega, rfl, rfl, rfl⟩
  · rintro μ L st h ⟨i, z, hμ, h1, rfl, rfl, rfl⟩
    refine And.intro (fun q1 => ?_) (fun q1 => ?_)
    · have q1 := (nI_leI (by omega) (by omega)).mp q1
      obtain rfl : i = n := by omega
      exact ⟨rfl, rfl⟩
    · have q1 : i < n := Nat.lt_of_not_le fun z => q1 ((nI_leI (by omega) (by omega)).mpr z)
      obtain ⟨m1, m2, m, m3, m4, m5, m6, m7, m8, _⟩ := hM i q1
      refine call0 (c_X12_hasE) rfl rfl ?_
      rintro r h' ⟨rfl, rfl⟩
      refine br_b (fun w => ?_) (fun w => ?_)
      · have w : ¬ B i = true := fun z => w ((hB i q1).mpr z)
        have ea : plB (tA tw tx p) B (i + 1) = plB (tA tw tx p) B i := if_neg w
        exact ⟨n - (i + 1), by omega, i + 1, _, rfl, by omega, by rw [ea, ← nI_1 i] <;> rfl, rfl, rfl⟩
      · have w := (hB i q1).mp w
        have e24 : (24 * ty i + tx i) % 24 = tx i := by omega
        have ea : plB (tA tw tx p) B (i + 1) = f_add (plB (tA tw tx p) B i) (f_mul (nI (tw i)) (sdV (p % 24) ((24 * ty i + tx i) % 24))) := by
          rw [e24]
          exact if_pos w
        refine And.intro (vp_in_nI (n := i) (by omega) (by omega)) ?_
        rw [nI_clamp (by omega), m1]
        refine And.intro (vp_in_nI (n := s i) (by omega) (by omega)) ?_
        rw [nI_clamp (by omega), m4]
        refine And.intro (vp_in_nI (n := m) (by omega) (by omega)) ?_
        rw [nI_clamp (by omega), m6]
        refine And.intro (vp_in_nI (n := i) (by omega) (by omega)) ?_
        rw [nI_clamp (by omega), m1]
        refine And.intro (vp_in_nI (n := s i) (by omega) (by omega)) ?_
        rw [nI_clamp (by omega), m5]
        refine And.intro (fun z => absurd z (by show ¬ ((_ : Int32) = _); decide)) (fun _ => ?_)
        refine call0 (e_X12_acrossTo (p := p) (q := 24 * ty i + tx i) hp (by omega)) rfl rfl ?_
        rintro r h' ⟨rfl, rfl⟩
        exact ⟨n - (i + 1), by omega, i + 1, _, rfl, by omega, by rw [ea, ← nI_1 i] <;> rfl, rfl, rfl⟩
theorem e_X12_pullL {l : Launch} {M_now M_aside M_kept M_isWall M_wasWall M_tape M_said M_waitsAt M_saidLetter M_saidFrom M_saidHalf M_saidTo M_codes M_clauseOf M_codeFrom M_codeHalf M_codeTo M_stack M_facts M_newStamps M_roundFrom M_roundAt M_roundTimes M_usesNow M_wasAt M_fewestFor M_getsOf : List (Option Nat)} {M_stampMany M_taped M_place0 M_length0 M_fault M_number0 M_open M_codeMany M_waiting M_saidMany M_clauses M_newMany M_rounds M_stampFrom M_stampTimes M_lines M_spot0 M_pullAcross M_pullAlong M_stepsNow M_fallenNow M_isKept : Int32} {M_mintAt M_mintOf M_wholeOf M_someOf : Nat → Int32}  {K : Int32} {B : Nat → Bool} {s tw tx ty : Nat → Nat} {n p : Nat} (hn : n ≤ 9) (hp : p ≤ 383) (hB : ∀ i, i < n → (hasB K (nI i) ↔ B i = true)) (hM : crR M_someOf M_mintOf M_wholeOf M_mintAt s tw tx ty n) : MetP l 2 yX12_pullOf cX12_pullOf 8 (some .int) 0 0 [.inr (some (.inl 0)), .inl K, .inl (nI n), .inl (nI p), .inl 0] [.inr (11, [.inr (some (.inr M_now)), .inr (some (.inr M_aside)), .inr (some (.inr M_kept)), .inr (some (.inl 1)), .inr (some (.inl 2)), .inr (some (.inl 3)), .inr (some (.inr M_isWall)), .inr (some (.inr M_wasWall)), .inl M_stampMany, .inr (some (.inr M_tape)), .inl M_taped, .inl M_place0, .inl M_length0, .inl M_fault, .inl M_number0, .inl M_open, .inl M_codeMany, .inl M_waiting, .inl M_saidMany, .inl M_clauses, .inr (some (.inr M_said)), .inr (some (.inr M_waitsAt)), .inr (some (.inr M_saidLetter)), .inr (some (.inr M_saidFrom)), .inr (some (.inr M_saidHalf)), .inr (some (.inr M_saidTo)), .inr (some (.inr M_codes)), .inr (some (.inr M_clauseOf)), .inr (some (.inr M_codeFrom)), .inr (some (.inr M_codeHalf)), .inr (some (.inr M_codeTo)), .inr (some (.inr M_stack)), .inr (some (.inr M_facts)), .inr (some (.inr M_newStamps)), .inr (some (.inr M_roundFrom)), .inr (some (.inr M_roundAt)), .inr (some (.inr M_roundTimes)), .inl M_newMany, .inl M_rounds, .inl M_stampFrom, .inl M_stampTimes, .inl M_lines, .inl M_spot0, .inl M_pullAcross, .inl M_pullAlong, .inl M_stepsNow, .inl M_fallenNow, .inr (some (.inr M_usesNow)), .inr (some (.inr M_wasAt)), .inr (some (.inl 4)), .inr (some (.inr M_fewestFor)), .inr (some (.inr M_getsOf)), .inl M_isKept]), .inl (0, 8, M_mintAt), .inl (0, 48, M_mintOf), .inl (0, 48, M_wholeOf), .inl (0, 9, M_someOf)] (fun r h' => r = some (.inl (plB (tL tw ty p) B n)) ∧ h' = [.inr (11, [.inr (some (.inr M_now)), .inr (some (.inr M_aside)), .inr (some (.inr M_kept)), .inr (some (.inl 1)), .inr (some (.inl 2)), .inr (some (.inl 3)), .inr (some (.inr M_isWall)), .inr (some (.inr M_wasWall)), .inl M_stampMany, .inr (some (.inr M_tape)), .inl M_taped, .inl M_place0, .inl M_length0, .inl M_fault, .inl M_number0, .inl M_open, .inl M_codeMany, .inl M_waiting, .inl M_saidMany, .inl M_clauses, .inr (some (.inr M_said)), .inr (some (.inr M_waitsAt)), .inr (some (.inr M_saidLetter)), .inr (some (.inr M_saidFrom)), .inr (some (.inr M_saidHalf)), .inr (some (.inr M_saidTo)), .inr (some (.inr M_codes)), .inr (some (.inr M_clauseOf)), .inr (some (.inr M_codeFrom)), .inr (some (.inr M_codeHalf)), .inr (some (.inr M_codeTo)), .inr (some (.inr M_stack)), .inr (some (.inr M_facts)), .inr (some (.inr M_newStamps)), .inr (some (.inr M_roundFrom)), .inr (some (.inr M_roundAt)), .inr (some (.inr M_roundTimes)), .inl M_newMany, .inl M_rounds, .inl M_stampFrom, .inl M_stampTimes, .inl M_lines, .inl M_spot0, .inl M_pullAcross, .inl M_pullAlong, .inl M_stepsNow, .inl M_fallenNow, .inr (some (.inr M_usesNow)), .inr (some (.inr M_wasAt)), .inr (some (.inl 4)), .inr (some (.inr M_fewestFor)), .inr (some (.inr M_getsOf)), .inl M_isKept]), .inl (0, 8, M_mintAt), .inl (0, 48, M_mintOf), .inl (0, 48, M_wholeOf), .inl (0, 9, M_someOf)]) := by
  refine m_X12_pullOf (fun μ L st h => ∃ (i : Nat) (z : Option PV), μ = n - i ∧ i ≤ n ∧ L = [some (.inr (some (.inl 0))), some (.inl K), some (.inl (nI n)), some (.inl (nI p)), some (.inl 0), some (.inl (plB (tL tw ty p) B i)), some (.inl (nI i)), z] ∧ st = [] ∧ h = [.inr (11, [.inr (some (.inr M_now)), .inr (some (.inr M_aside)), .inr (some (.inr M_kept)), .inr (some (.inl 1)), .inr (some (.inl 2)), .inr (some (.inl 3)), .inr (some (.inr M_isWall)), .inr (some (.inr M_wasWall)), .inl M_stampMany, .inr (some (.inr M_tape)), .inl M_taped, .inl M_place0, .inl M_length0, .inl M_fault, .inl M_number0, .inl M_open, .inl M_codeMany, .inl M_waiting, .inl M_saidMany, .inl M_clauses, .inr (some (.inr M_said)), .inr (some (.inr M_waitsAt)), .inr (some (.inr M_saidLetter)), .inr (some (.inr M_saidFrom)), .inr (some (.inr M_saidHalf)), .inr (some (.inr M_saidTo)), .inr (some (.inr M_codes)), .inr (some (.inr M_clauseOf)), .inr (some (.inr M_codeFrom)), .inr (some (.inr M_codeHalf)), .inr (some (.inr M_codeTo)), .inr (some (.inr M_stack)), .inr (some (.inr M_facts)), .inr (some (.inr M_newStamps)), .inr (some (.inr M_roundFrom)), .inr (some (.inr M_roundAt)), .inr (some (.inr M_roundTimes)), .inl M_newMany, .inl M_rounds, .inl M_stampFrom, .inl M_stampTimes, .inl M_lines, .inl M_spot0, .inl M_pullAcross, .inl M_pullAlong, .inl M_stepsNow, .inl M_fallenNow, .inr (some (.inr M_usesNow)), .inr (some (.inr M_wasAt)), .inr (some (.inl 4)), .inr (some (.inr M_fewestFor)), .inr (some (.inr M_getsOf)), .inl M_isKept]), .inl (0, 8, M_mintAt), .inl (0, 48, M_mintOf), .inl (0, 48, M_wholeOf), .inl (0, 9, M_someOf)]) (Nat.le_of_ble_eq_true rfl) ?_ ?_
  · exact ⟨_, 0, none, rfl, by omega, rfl, rfl, rfl⟩
  · rintro μ L st h ⟨i, z, hμ, h1, rfl, rfl, rfl⟩
    refine And.intro (fun q1 => ?_) (fun q1 => ?_)
    · have q1 := (nI_leI (by omega) (by omega)).mp q1
      obtain rfl : i = n := by omega
      exact ⟨rfl, rfl⟩
    · have q1 : i < n := Nat.lt_of_not_le fun z => q1 ((nI_leI (by omega) (by omega)).mpr z)
      obtain ⟨m1, m2, m, m3, m4, m5, m6, m7, m8, _⟩ := hM i q1
      refine call0 (c_X12_hasE) rfl rfl ?_
      rintro r h' ⟨rfl, rfl⟩
      refine br_b (fun w => ?_) (fun w => ?_)
      · have w : ¬ B i = true := fun z => w ((hB i q1).mpr z)
        have ea : plB (tL tw ty p) B (i + 1) = plB (tL tw ty p) B i := if_neg w
        exact ⟨n - (i + 1), by omega, i + 1, _, rfl, by omega, by rw [ea, ← nI_1 i] <;> rfl, rfl, rfl⟩
      · have w := (hB i q1).mp w
        have e24 : (24 * ty i + tx i) / 24 = ty i := by omega
        have ea : plB (tL tw ty p) B (i + 1) = f_add (plB (tL tw ty p) B i) (f_mul (nI (tw i)) (sdV (p / 24) ((24 * ty i + tx i) / 24))) := by
          rw [e24]
          exact if_pos w
        refine And.intro (vp_in_nI (n := i) (by omega) (by omega)) ?_
        rw [nI_clamp (by omega), m1]
        refine And.intro (vp_in_nI (n := s i) (by omega) (by omega)) ?_
        rw [nI_clamp (by omega), m4]
        refine And.intro (vp_in_nI (n := m) (by omega) (by omega)) ?_
        rw [nI_clamp (by omega), m6]
        refine And.intro (vp_in_nI (n := i) (by omega) (by omega)) ?_
        rw [nI_clamp (by omega), m1]
        refine And.intro (vp_in_nI (n := s i) (by omega) (by omega)) ?_
        rw [nI_clamp (by omega), m5]
        refine And.intro (fun _ => ?_) (fun z => absurd rfl z)
        refine call0 (e_X12_alongTo (p := p) (q := 24 * ty i + tx i) hp (by omega)) rfl rfl ?_
        rintro r h' ⟨rfl, rfl⟩
        exact ⟨n - (i + 1), by omega, i + 1, _, rfl, by omega, by rw [ea, ← nI_1 i] <;> rfl, rfl, rfl⟩
theorem e_X12_takesStamps {l : Launch} {M_now M_aside M_kept M_wholeOf M_isWall M_wasWall M_said M_waitsAt M_saidLetter M_saidFrom M_saidHalf M_saidTo M_codes M_clauseOf M_codeFrom M_codeHalf M_codeTo M_stack M_facts M_newStamps M_roundFrom M_roundAt M_roundTimes M_usesNow M_wasAt M_fewestFor M_getsOf : List (Option Nat)} {M_taped M_place0 M_length0 M_fault M_number0 M_open M_codeMany M_waiting M_saidMany M_clauses M_newMany M_rounds M_stampFrom M_stampTimes M_lines M_spot0 M_pullAcross M_pullAlong M_stepsNow M_fallenNow M_isKept : Int32} {M_mintAt M_mintOf M_tape M_someOf : Nat → Int32}  {o fm : Nat → Nat} {n c T : Nat} (hn : n ≤ 9) (hc : c ≤ 48) (hm : ∀ s, s < c → fm s < 8 ∧ M_mintOf s = nI (fm s)) (hA : ∀ m, m < 8 → (T.testBit m = true ∧ ∃ q, q ≤ 383 ∧ M_mintAt m = nI q) ∨ (T.testBit m = false ∧ M_mintAt m = -1)) (hS : ∀ i, i < 9 → 0 ≤ (M_someOf i).toInt ∧ (M_someOf i).toInt ≤ 47) (hb : ∀ i, i < n → o i ≤ 255 ∧ f_and (M_tape i) 255 = nI (o i)) : MetP l 2 yX12_takesStamps cX12_takesStamps 4 (some .boolean) 0 0 [.inr (some (.inl 0)), .inl (nI n)] [.inr (11, [.inr (some (.inr M_now)), .inr (some (.inr M_aside)), .inr (some (.inr M_kept)), .inr (some (.inl 1)), .inr (some (.inl 2)), .inr (some (.inr M_wholeOf)), .inr (some (.inr M_isWall)), .inr (some (.inr M_wasWall)), .inl ((nI c)), .inr (some (.inl 3)), .inl M_taped, .inl M_place0, .inl M_length0, .inl M_fault, .inl M_number0, .inl M_open, .inl M_codeMany, .inl M_waiting, .inl M_saidMany, .inl M_clauses, .inr (some (.inr M_said)), .inr (some (.inr M_waitsAt)), .inr (some (.inr M_saidLetter)), .inr (some (.inr M_saidFrom)), .inr (some (.inr M_saidHalf)), .inr (some (.inr M_saidTo)), .inr (some (.inr M_codes)), .inr (some (.inr M_clauseOf)), .inr (some (.inr M_codeFrom)), .inr (some (.inr M_codeHalf)), .inr (some (.inr M_codeTo)), .inr (some (.inr M_stack)), .inr (some (.inr M_facts)), .inr (some (.inr M_newStamps)), .inr (some (.inr M_roundFrom)), .inr (some (.inr M_roundAt)), .inr (some (.inr M_roundTimes)), .inl M_newMany, .inl M_rounds, .inl M_stampFrom, .inl M_stampTimes, .inl M_lines, .inl M_spot0, .inl M_pullAcross, .inl M_pullAlong, .inl M_stepsNow, .inl M_fallenNow, .inr (some (.inr M_usesNow)), .inr (some (.inr M_wasAt)), .inr (some (.inl 4)), .inr (some (.inr M_fewestFor)), .inr (some (.inr M_getsOf)), .inl M_isKept]), .inl (0, 8, M_mintAt), .inl (0, 48, M_mintOf), .inl (1, 260, M_tape), .inl (0, 9, M_someOf)] (fun r h' => ∃ so : Nat → Int32, (∀ i, i < 9 → 0 ≤ (so i).toInt ∧ (so i).toInt ≤ 47) ∧ ((r = some (.inl 0) ∧ alW c T fm o n = false) ∨ (r = some (.inl 1) ∧ alW c T fm o n = true ∧ ∀ i, i < n → so i = nI (o i))) ∧ h' = [.inr (11, [.inr (some (.inr M_now)), .inr (some (.inr M_aside)), .inr (some (.inr M_kept)), .inr (some (.inl 1)), .inr (some (.inl 2)), .inr (some (.inr M_wholeOf)), .inr (some (.inr M_isWall)), .inr (some (.inr M_wasWall)), .inl ((nI c)), .inr (some (.inl 3)), .inl 0, .inl M_place0, .inl M_length0, .inl M_fault, .inl M_number0, .inl M_open, .inl M_codeMany, .inl M_waiting, .inl M_saidMany, .inl M_clauses, .inr (some (.inr M_said)), .inr (some (.inr M_waitsAt)), .inr (some (.inr M_saidLetter)), .inr (some (.inr M_saidFrom)), .inr (some (.inr M_saidHalf)), .inr (some (.inr M_saidTo)), .inr (some (.inr M_codes)), .inr (some (.inr M_clauseOf)), .inr (some (.inr M_codeFrom)), .inr (some (.inr M_codeHalf)), .inr (some (.inr M_codeTo)), .inr (some (.inr M_stack)), .inr (some (.inr M_facts)), .inr (some (.inr M_newStamps)), .inr (some (.inr M_roundFrom)), .inr (some (.inr M_roundAt)), .inr (some (.inr M_roundTimes)), .inl M_newMany, .inl M_rounds, .inl M_stampFrom, .inl M_stampTimes, .inl M_lines, .inl M_spot0, .inl M_pullAcross, .inl M_pullAlong, .inl M_stepsNow, .inl M_fallenNow, .inr (some (.inr M_usesNow)), .inr (some (.inr M_wasAt)), .inr (some (.inl 4)), .inr (some (.inr M_fewestFor)), .inr (some (.inr M_getsOf)), .inl M_isKept]), .inl (0, 8, M_mintAt), .inl (0, 48, M_mintOf), .inl (1, 260, M_tape), .inl (0, 9, so)]) := by
  refine m_X12_takesStamps (fun μ L st h => ∃ (i : Nat) (so : Nat → Int32) (z : Option PV), μ = n - i ∧ i ≤ n ∧ alW c T fm o i = true ∧ (∀ j, j < 9 → 0 ≤ (so j).toInt ∧ (so j).toInt ≤ 47) ∧ (∀ j, j < i → so j = nI (o j)) ∧ L = [some (.inr (some (.inl 0))), some (.inl (nI n)), some (.inl (nI i)), z] ∧ st = [] ∧ h = [.inr (11, [.inr (some (.inr M_now)), .inr (some (.inr M_aside)), .inr (some (.inr M_kept)), .inr (some (.inl 1)), .inr (some (.inl 2)), .inr (some (.inr M_wholeOf)), .inr (some (.inr M_isWall)), .inr (some (.inr M_wasWall)), .inl ((nI c)), .inr (some (.inl 3)), .inl 0, .inl M_place0, .inl M_length0, .inl M_fault, .inl M_number0, .inl M_open, .inl M_codeMany, .inl M_waiting, .inl M_saidMany, .inl M_clauses, .inr (some (.inr M_said)), .inr (some (.inr M_waitsAt)), .inr (some (.inr M_saidLetter)), .inr (some (.inr M_saidFrom)), .inr (some (.inr M_saidHalf)), .inr (some (.inr M_saidTo)), .inr (some (.inr M_codes)), .inr (some (.inr M_clauseOf)), .inr (some (.inr M_codeFrom)), .inr (some (.inr M_codeHalf)), .inr (some (.inr M_codeTo)), .inr (some (.inr M_stack)), .inr (some (.inr M_facts)), .inr (some (.inr M_newStamps)), .inr (some (.inr M_roundFrom)), .inr (some (.inr M_roundAt)), .inr (some (.inr M_roundTimes)), .inl M_newMany, .inl M_rounds, .inl M_stampFrom, .inl M_stampTimes, .inl M_lines, .inl M_spot0, .inl M_pullAcross, .inl M_pullAlong, .inl M_stepsNow, .inl M_fallenNow, .inr (some (.inr M_usesNow)), .inr (some (.inr M_wasAt)), .inr (some (.inl 4)), .inr (some (.inr M_fewestFor)), .inr (some (.inr M_getsOf)), .inl M_isKept]), .inl (0, 8, M_mintAt), .inl (0, 48, M_mintOf), .inl (1, 260, M_tape), .inl (0, 9, so)]) (Nat.le_of_ble_eq_true rfl) ?_ ?_
  · exact ⟨_, 0, M_someOf, none, rfl, by omega, rfl, hS, fun j hj => absurd hj (Nat.not_lt_zero _), rfl, rfl, rfl⟩
  · rintro μ L st h ⟨i, so, z, hμ, h1, h2, h4, h3, rfl, rfl, rfl⟩
    refine And.intro (fun q1 => ?_) (fun q1 => ?_)
    · have q1 := (nI_leI (by omega) (by omega)).mp q1
      obtain rfl : i = n := by omega
      exact And.intro (Or.inr rfl) ⟨so, h4, Or.inr ⟨rfl, h2, h3⟩, rfl⟩
    · have q1 : i < n := Nat.lt_of_not_le fun z => q1 ((nI_leI (by omega) (by omega)).mpr z)
      obtain ⟨o1, o2⟩ := hb i q1
      refine call0 (c_X12_octet (k := i) (by omega)) rfl rfl ?_
      rintro r h' ⟨rfl, rfl⟩
      rw [o2]
      refine call0 (c_X12_isStamp) rfl rfl ?_
      rintro r h' ⟨rfl, rfl⟩
      refine br_b (fun w => ?_) (fun w => ?_)
      · have w : ¬ o i < c := fun z => w ((isS_n o1 hc).mpr z)
        exact And.intro (Or.inl rfl) ⟨so, h4, Or.inl ⟨rfl, alW_f q1 (fun z => w z.1)⟩, rfl⟩
      · have w : o i < c := (isS_n o1 hc).mp w
        obtain ⟨f1, f2⟩ := hm (o i) w
        refine And.intro (vp_in_nI (n := o i) (by omega) (by omega)) ?_
        rw [nI_clamp (by omega), f2]
        refine And.intro (vp_in_nI (n := fm (o i)) (by omega) (by omega)) ?_
        rw [nI_clamp (by omega)]
        rcases hA (fm (o i)) f1 with ⟨t1, q, q2, q3⟩ | ⟨t1, q3⟩
        · rw [q3]
          refine And.intro (fun z => absurd z (n1_k (by omega))) (fun _ => ?_)
          refine And.intro (vp_in_nI (n := i) (by omega) (by omega)) ?_
          rw [nI_clamp (by omega)]
          exact ⟨n - (i + 1), by omega, i + 1, upd so i (nI (o i)), _, rfl, by omega, alW_s h2 ⟨w, t1⟩, fun j hj => by
            by_cases q : j = i
            · subst q
              rw [upd_sI, nI_toInt (by omega)]
              omega
            · rw [upd_nI q]
              exact h4 j hj, fun j hj => by
            by_cases q : j = i
            · subst q
              exact upd_sI
            · rw [upd_nI q]
              exact h3 j (by omega), by rw [← nI_1 i] <;> rfl, rfl, rfl⟩
        · rw [q3]
          refine And.intro (fun _ => ?_) (fun z => absurd rfl z)
          exact And.intro (Or.inl rfl) ⟨so, h4, Or.inl ⟨rfl, alW_f q1 (fun z => by rw [t1] at z; cases z.2)⟩, rfl⟩

