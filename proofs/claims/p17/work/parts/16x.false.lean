/-! ===== which of them are false ===== -/
def wpV (a b : Int32) : Int32 := if (0 : Int32) < f_max (f_abs a) (f_abs b) then (if f_abs a < f_abs b then wbV 0 b else wbV a 0) else 0
set_option maxRecDepth 100000 in
theorem c_X11_wayOfPulls {l : Launch} {a b : Int32} : MetP l 1 yX11_wayOfPulls cX11_wayOfPulls 5 (some .int) 0 0 [.inl a, .inl b, .inl 0] [] (fun r h' => r = some (.inl (wpV a b)) ∧ h' = []) := by
  refine m_X11_wayOfPulls (Nat.le_of_ble_eq_true rfl) ?_
  refine And.intro rfl ?_
  refine And.intro rfl ?_
  refine And.intro rfl ?_
  refine And.intro (fun (q : (0 : Int32) < f_max (f_abs a) (f_abs b)) => ?_) (fun (q : ¬ (0 : Int32) < f_max (f_abs a) (f_abs b)) => ?_)
  · refine And.intro (fun (r : f_abs a < f_abs b) => ?_) (fun (r : ¬ f_abs a < f_abs b) => ?_)
    · refine call0 (c_X11_wayBits) rfl rfl ?_
      rintro r h' ⟨rfl, rfl⟩
      exact ⟨by unfold wpV; rw [if_pos q, if_pos r], rfl⟩
    · refine call0 (c_X11_wayBits) rfl rfl ?_
      rintro r h' ⟨rfl, rfl⟩
      exact ⟨by unfold wpV; rw [if_pos q, if_neg r], rfl⟩
  · exact ⟨by unfold wpV; rw [if_neg q], rfl⟩
set_option maxRecDepth 100000 in
theorem c_X1_wayFrom {l : Launch} {Crew_acrossSum Crew_alongSum Rep_toldMints Rep_walls : Int32} {Crew_members Rep_mintX Rep_mintY Rep_wall Rep_mintOf Rep_grainsOf : Nat → Int32}  {K : Int32} {B : Nat → Bool} {s tw tx ty : Nat → Nat} {n c p : Nat} (hn : n ≤ 9) (hc : c ≤ 48) (hp : p ≤ 383) (hB : ∀ i, i < n → (hasB K (nI i) ↔ B i = true)) (hM : crC c Crew_members Rep_mintOf Rep_grainsOf Rep_mintX Rep_mintY s tw tx ty n) : MetP l 4 yX1_wayFrom cX1_wayFrom 3 (some .int) 0 0 [.inr (some (.inl 0)), .inl K, .inl (nI p)] [.inr (1, [.inr (some (.inl 2)), .inr (some (.inl 1)), .inl ((nI n)), .inl Crew_acrossSum, .inl Crew_alongSum]), .inl (0, 9, Crew_members), .inr (6, [.inr (some (.inl 3)), .inr (some (.inl 4)), .inr (some (.inl 5)), .inr (some (.inl 6)), .inr (some (.inl 7)), .inl Rep_toldMints, .inl Rep_walls, .inl ((nI c))]), .inl (0, 8, Rep_mintX), .inl (0, 8, Rep_mintY), .inl (2, 384, Rep_wall), .inl (0, 48, Rep_mintOf), .inl (0, 48, Rep_grainsOf)] (fun r h' => ∃ u v : Int32, r = some (.inl (wpV (plB (tA tw tx p) B n) (plB (tL tw ty p) B n))) ∧ h' = [.inr (1, [.inr (some (.inl 2)), .inr (some (.inl 1)), .inl ((nI n)), .inl u, .inl v]), .inl (0, 9, Crew_members), .inr (6, [.inr (some (.inl 3)), .inr (some (.inl 4)), .inr (some (.inl 5)), .inr (some (.inl 6)), .inr (some (.inl 7)), .inl Rep_toldMints, .inl Rep_walls, .inl ((nI c))]), .inl (0, 8, Rep_mintX), .inl (0, 8, Rep_mintY), .inl (2, 384, Rep_wall), .inl (0, 48, Rep_mintOf), .inl (0, 48, Rep_grainsOf)]) := by
  refine m_X1_wayFrom (Nat.le_of_ble_eq_true rfl) ?_
  refine call0 (c_X1_pullTogether (B := B) (s := s) (tw := tw) (tx := tx) (ty := ty) (n := n) (c := c) (p := p) hn hc hp hB hM) rfl rfl ?_
  rintro r h' ⟨rfl, rfl⟩
  refine call0 (c_X11_wayOfPulls) rfl rfl ?_
  rintro r h' ⟨rfl, rfl⟩
  exact ⟨_, _, rfl, rfl⟩
def sgV (x : Int32) : Int32 := if (0 : Int32) ≤ x then (if x ≤ 0 then 0 else 1) else -1
def szI (x : Int32) : Int32 := if (0 : Int32) ≤ x then x else f_neg x
def fpV (a b : Int32) : Int32 × Int32 := if ¬ a = 0 ∧ szI b ≤ szI a then (sgV a, 0) else (0, sgV b)
theorem e_X12_signV {l : Launch} {K : Int32} : MetP l 0 yX12_sign cX12_sign 1 (some .int) 0 0 [.inl K] [] (fun r h' => r = some (.inl (sgV K)) ∧ h' = []) := by
  refine m_X12_sign (Nat.le_of_ble_eq_true rfl) ?_
  unfold sgV
  refine And.intro (fun (q : (0 : Int32) ≤ K) => ?_) (fun (q : ¬ (0 : Int32) ≤ K) => ?_)
  · rw [if_pos q]
    refine And.intro (fun (r : K ≤ 0) => ?_) (fun (r : ¬ K ≤ 0) => ?_)
    · rw [if_pos r]
      exact ⟨rfl, rfl⟩
    · rw [if_neg r]
      exact ⟨rfl, rfl⟩
  · rw [if_neg q]
    exact ⟨rfl, rfl⟩
theorem e_X12_sizeV {l : Launch} {K : Int32} : MetP l 0 yX12_size cX12_size 1 (some .int) 0 0 [.inl K] [] (fun r h' => r = some (.inl (szI K)) ∧ h' = []) := by
  refine m_X12_size (Nat.le_of_ble_eq_true rfl) ?_
  unfold szI
  refine And.intro (fun (q : (0 : Int32) ≤ K) => ?_) (fun (q : ¬ (0 : Int32) ≤ K) => ?_)
  · rw [if_pos q]
    exact ⟨rfl, rfl⟩
  · rw [if_neg q]
    exact ⟨rfl, rfl⟩
/-! the two ways to say where they pull are one -/
theorem z0i : (0 : Int32).toInt = 0 := rfl
theorem le0 {x : Int32} : (0 : Int32) ≤ x ↔ 0 ≤ x.toInt := by rw [Int32.le_iff_toInt_le, z0i]
theorem ge0 {x : Int32} : x ≤ 0 ↔ x.toInt ≤ 0 := by rw [Int32.le_iff_toInt_le, z0i]
theorem ab_i {x : Int32} (h : -100 ≤ x.toInt ∧ x.toInt ≤ 100) : (0 ≤ x.toInt ∧ (f_abs x).toInt = x.toInt ∧ (szI x).toInt = x.toInt) ∨ (x.toInt < 0 ∧ (f_abs x).toInt = -x.toInt ∧ (szI x).toInt = -x.toInt) := by
  unfold f_abs szI
  by_cases q : 0 ≤ x.toInt
  · rw [if_pos (le0.mpr q), if_pos (le0.mpr q)]
    exact Or.inl ⟨q, rfl, rfl⟩
  · rw [if_neg (fun z => q (le0.mp z)), if_neg (fun z => q (le0.mp z))]
    refine Or.inr ⟨by omega, ?_, ?_⟩
    · rw [Int32.toInt_sub, z0i, bm (by omega) (by omega)]
      omega
    · unfold f_neg
      rw [Int32.toInt_neg, bm (by omega) (by omega)]
theorem sg_p {x : Int32} (h : 0 < x.toInt) : sgV x = 1 := by
  unfold sgV
  rw [if_pos (le0.mpr (by omega)), if_neg (fun z => by have := ge0.mp z; omega)]
theorem sg_n {x : Int32} (h : x.toInt < 0) : sgV x = -1 := by
  unfold sgV
  rw [if_neg (fun z => by have := le0.mp z; omega)]
theorem sg_3 {x : Int32} : sgV x = -1 ∨ sgV x = 0 ∨ sgV x = 1 := by
  unfold sgV
  split
  · split
    · exact Or.inr (Or.inl rfl)
    · exact Or.inr (Or.inr rfl)
  · exact Or.inl rfl
theorem wbAs {a : Int32} : wbV a 0 = wbV (sgV a) 0 := by
  rcases (by omega : a.toInt < 0 ∨ a.toInt = 0 ∨ 0 < a.toInt) with h | h | h
  · have e : wbV a 0 = f_or 0 2 := by
      unfold wbV
      rw [if_pos rfl, if_neg (fun z => by rw [z, z0i] at h; omega), if_pos (ge0.mpr (by omega))]
    rw [e, sg_n h]
    decide
  · obtain rfl : a = 0 := i32eq.mpr (by rw [h, z0i])
    decide
  · have e : wbV a 0 = f_or 0 1 := by
      unfold wbV
      rw [if_pos rfl, if_neg (fun z => by rw [z, z0i] at h; omega), if_neg (fun z => by have := ge0.mp z; omega)]
    rw [e, sg_p h]
    decide
theorem wbLs {b : Int32} : wbV 0 b = wbV 0 (sgV b) := by
  rcases (by omega : b.toInt < 0 ∨ b.toInt = 0 ∨ 0 < b.toInt) with h | h | h
  · have e : wbV 0 b = f_or 0 8 := by
      unfold wbV
      rw [if_neg (fun z => by rw [z, z0i] at h; omega), if_pos rfl, if_pos (ge0.mpr (by omega))]
    rw [e, sg_n h]
    decide
  · obtain rfl : b = 0 := i32eq.mpr (by rw [h, z0i])
    decide
  · have e : wbV 0 b = f_or 0 4 := by
      unfold wbV
      rw [if_neg (fun z => by rw [z, z0i] at h; omega), if_pos rfl, if_neg (fun z => by have := ge0.mp z; omega)]
    rw [e, sg_p h]
    decide
theorem wp_fx {a b : Int32} (ha : -100 ≤ a.toInt ∧ a.toInt ≤ 100) (hb : -100 ≤ b.toInt ∧ b.toInt ≤ 100) : wpV a b = wbV (fpV a b).1 (fpV a b).2 := by
  have ia := ab_i ha
  have ib := ab_i hb
  by_cases g : ¬ a = 0 ∧ szI b ≤ szI a
  · have e : fpV a b = (sgV a, 0) := if_pos g
    have n0 : ¬ a.toInt = 0 := fun z => g.1 (i32eq.mpr (by rw [z, z0i]))
    have g2 := Int32.le_iff_toInt_le.mp g.2
    have q : ¬ f_abs a < f_abs b := fun z => by have := Int32.lt_iff_toInt_lt.mp z; omega
    have m : f_max (f_abs a) (f_abs b) = f_abs a := if_neg q
    have p : (0 : Int32) < f_max (f_abs a) (f_abs b) := by
      rw [m]
      exact Int32.lt_iff_toInt_lt.mpr (by rw [z0i]; omega)
    rw [e]
    unfold wpV
    rw [if_pos p, if_neg q]
    exact wbAs
  · have e : fpV a b = (0, sgV b) := if_neg g
    rw [e]
    by_cases q : f_abs a < f_abs b
    · have q' := Int32.lt_iff_toInt_lt.mp q
      have m : f_max (f_abs a) (f_abs b) = f_abs b := if_pos q
      have p : (0 : Int32) < f_max (f_abs a) (f_abs b) := by
        rw [m]
        exact Int32.lt_iff_toInt_lt.mpr (by rw [z0i]; omega)
      unfold wpV
      rw [if_pos p, if_pos q]
      exact wbLs
    · have q' : (f_abs b).toInt ≤ (f_abs a).toInt := by
        rcases (show (f_abs a).toInt < (f_abs b).toInt ∨ (f_abs b).toInt ≤ (f_abs a).toInt by omega) with z | z
        · exact absurd (Int32.lt_iff_toInt_lt.mpr z) q
        · exact z
      have a0 : a = 0 := Classical.byContradiction fun z => g ⟨z, Int32.le_iff_toInt_le.mpr (by omega)⟩
      subst a0
      have b0 : b = 0 := i32eq.mpr (by rw [z0i] at ia ⊢; omega)
      subst b0
      decide
theorem fx_3 {a b : Int32} : ((fpV a b).1 = -1 ∨ (fpV a b).1 = 0 ∨ (fpV a b).1 = 1) ∧ ((fpV a b).2 = -1 ∨ (fpV a b).2 = 0 ∨ (fpV a b).2 = 1) := by
  unfold fpV
  split
  · exact ⟨sg_3, Or.inr (Or.inl rfl)⟩
  · exact ⟨Or.inr (Or.inl rfl), sg_3⟩
theorem fx_0 {a b : Int32} : (fpV a b).1 = 0 ∨ (fpV a b).2 = 0 := by
  unfold fpV
  split
  · exact Or.inr rfl
  · exact Or.inl rfl
theorem wb_inj {x y a b : Int32} (hx : x = -1 ∨ x = 0 ∨ x = 1) (hy : y = -1 ∨ y = 0 ∨ y = 1) (ha : a = -1 ∨ a = 0 ∨ a = 1) (hb : b = -1 ∨ b = 0 ∨ b = 1) : wbV x y = wbV a b ↔ (x = a ∧ y = b) := by
  rcases hx with rfl | rfl | rfl <;> rcases hy with rfl | rfl | rfl <;> rcases ha with rfl | rfl | rfl <;> rcases hb with rfl | rfl | rfl <;> decide
/-! how strong they pull -/
theorem sd_3 {u v : Nat} : sdV u v = 0 ∨ sdV u v = -1 ∨ sdV u v = 1 := by
  unfold sdV
  split
  · exact Or.inl rfl
  · split
    · exact Or.inr (Or.inl rfl)
    · exact Or.inr (Or.inr rfl)
theorem tm_i {w u v : Nat} (hw : w ≤ 2) : -2 ≤ (f_mul (nI w) (sdV u v)).toInt ∧ (f_mul (nI w) (sdV u v)).toInt ≤ 2 := by
  rcases (by omega : w = 0 ∨ w = 1 ∨ w = 2) with rfl | rfl | rfl <;> rcases sd_3 (u := u) (v := v) with e | e | e <;> rw [e] <;> decide
theorem tm_0 {u v : Nat} : f_mul (nI 0) (sdV u v) = 0 := by
  rcases sd_3 (u := u) (v := v) with e | e | e <;> rw [e] <;> decide
theorem plB_i {t : Nat → Int32} {B : Nat → Bool} : ∀ {n : Nat}, n ≤ 9 → (∀ i, i < n → -2 ≤ (t i).toInt ∧ (t i).toInt ≤ 2) → -2 * (n : Int) ≤ (plB t B n).toInt ∧ (plB t B n).toInt ≤ 2 * (n : Int)
  | 0, _, _ => ⟨by show -2 * ((0 : Nat) : Int) ≤ (0 : Int32).toInt; decide, by show (0 : Int32).toInt ≤ 2 * ((0 : Nat) : Int); decide⟩
  | n + 1, hn, h => by
    have ih := plB_i (t := t) (B := B) (n := n) (by omega) (fun i hi => h i (by omega))
    have a := h n (by omega)
    unfold plB
    split
    · unfold f_add
      rw [Int32.toInt_add, bm (by omega) (by omega)]
      omega
    · omega
theorem plB_z {t : Nat → Int32} {B B' : Nat → Bool} : ∀ {n : Nat}, (∀ i, i < n → B i = B' i ∨ t i = 0) → plB t B n = plB t B' n
  | 0, _ => rfl
  | n + 1, h => by
    have ih := plB_z (t := t) (B := B) (B' := B') (n := n) (fun i hi => h i (by omega))
    unfold plB
    rw [ih]
    rcases h n (by omega) with e | e
    · rw [e]
    · have z : f_add (plB t B' n) (t n) = plB t B' n := by
        rw [e]
        exact Int32.add_zero _
      rw [z]
      split <;> split <;> rfl
/-- is the set's rest as it was seen? -/
def flB (tw tx ty : Nat → Nat) (n p : Nat) (a b : Int32) (S : Nat) : Bool := decide (fpV (plB (tA tw tx p) (fun i => !S.testBit i) n) (plB (tL tw ty p) (fun i => !S.testBit i) n) = (a, b))
theorem fl_wp {tw tx ty : Nat → Nat} {n p S : Nat} {a b : Int32} (hn : n ≤ 9) (hw : ∀ i, i < n → tw i ≤ 2) (ha : a = -1 ∨ a = 0 ∨ a = 1) (hb : b = -1 ∨ b = 0 ∨ b = 1) : wpV (plB (tA tw tx p) (fun i => !S.testBit i) n) (plB (tL tw ty p) (fun i => !S.testBit i) n) = wbV a b ↔ flB tw tx ty n p a b S = true := by
  have i1 := plB_i (t := tA tw tx p) (B := fun i => !S.testBit i) hn (fun i hi => tm_i (hw i hi))
  have i2 := plB_i (t := tL tw ty p) (B := fun i => !S.testBit i) hn (fun i hi => tm_i (hw i hi))
  have h3 := fx_3 (a := plB (tA tw tx p) (fun i => !S.testBit i) n) (b := plB (tL tw ty p) (fun i => !S.testBit i) n)
  rw [wp_fx ⟨by omega, by omega⟩ ⟨by omega, by omega⟩, wb_inj h3.1 h3.2 ha hb]
  unfold flB
  rw [decide_eq_true_eq]
  exact ⟨fun z => Prod.ext z.1 z.2, fun z => ⟨congrArg Prod.fst z, congrArg Prod.snd z⟩⟩
theorem bs_no {P : Nat → Bool} : ∀ {j : Nat}, (∀ S, S < j → P S = false) → bsG P j = none
  | 0, _ => rfl
  | j + 1, h => by
    unfold bsG
    rw [if_neg (by rw [h j (by omega)]; decide)]
    exact bs_no (fun S hS => h S (by omega))
theorem bs_min {P : Nat → Bool} : ∀ {j S : Nat}, S < j → P S = true → ∃ b, bsG P j = some b ∧ pcN b 12 ≤ pcN S 12
  | 0, S, h, _ => absurd h (Nat.not_lt_zero _)
  | j + 1, S, h, hp => by
    unfold bsG
    rcases (by omega : S = j ∨ S < j) with rfl | q
    · rw [if_pos hp]
      refine ⟨_, rfl, ?_⟩
      cases e : bsG P S with
      | none => exact Nat.le_refl _
      | some x =>
        show pcN (if pcN S 12 < pcN x 12 then S else x) 12 ≤ pcN S 12
        split <;> omega
    · obtain ⟨b, e, hb⟩ := bs_min q hp
      by_cases pj : P j = true
      · rw [if_pos pj, e]
        refine ⟨_, rfl, ?_⟩
        show pcN (if pcN j 12 < pcN b 12 then j else b) 12 ≤ pcN S 12
        split <;> omega
      · rw [if_neg pj]
        exact ⟨b, e, hb⟩
theorem bs_flt {P D : Nat → Bool} : ∀ {j : Nat}, (∀ S, S < j → P S = true → D S = false → ∃ S', S' < S ∧ P S' = true ∧ pcN S' 12 < pcN S 12) → bsG P j = bsG (fun S => D S && P S) j
  | 0, _ => rfl
  | j + 1, h => by
    have ih := bs_flt (P := P) (D := D) (j := j) (fun S hS => h S (by omega))
    unfold bsG
    rw [← ih]
    by_cases pj : P j = true
    · rw [if_pos pj]
      cases dj : D j
      · rw [if_neg (by rw [Bool.false_and]; decide)]
        obtain ⟨S', s1, s2, s3⟩ := h j (by omega) pj dj
        obtain ⟨b, e, hb⟩ := bs_min s1 s2
        rw [e]
        exact congrArg some (if_neg (by omega))
      · rw [if_pos (by rw [pj]; rfl)]
    · rw [if_neg pj, if_neg (by rw [Bool.and_eq_true]; exact fun z => pj z.2)]
theorem sub_k {S k : Nat} (hS : S < 512) (hk : k < 9) (hb : S.testBit k = true) : S - 2 ^ k < S ∧ (∀ i, i < 9 → i ≠ k → (S - 2 ^ k).testBit i = S.testBit i) ∧ pcN (S - 2 ^ k) 12 < pcN S 12 := by
  have q1 : ∀ a, a < 64 → ∀ b, b < 8 → ∀ k, k < 9 → (8 * a + b).testBit k = true → 8 * a + b - 2 ^ k < 8 * a + b := by decide +kernel
  have q2 : ∀ a, a < 64 → ∀ b, b < 8 → ∀ k, k < 9 → ∀ i, i < 9 → ((8 * a + b).testBit k = false ∨ (i = k ∨ (8 * a + b - 2 ^ k).testBit i = (8 * a + b).testBit i)) := by decide +kernel
  have q3 : ∀ a, a < 64 → ∀ b, b < 8 → ∀ k, k < 9 → (8 * a + b).testBit k = true → pcN (8 * a + b - 2 ^ k) 12 < pcN (8 * a + b) 12 := by decide +kernel
  have e : S = 8 * (S / 8) + S % 8 := by omega
  rw [e] at hb ⊢
  exact ⟨q1 (S / 8) (by omega) (S % 8) (by omega) k hk hb, fun i hi hne => ((q2 (S / 8) (by omega) (S % 8) (by omega) k hk i hi).resolve_left (fun z => by rw [hb] at z; cases z)).resolve_left hne, q3 (S / 8) (by omega) (S % 8) (by omega) k hk hb⟩
theorem prF_bit {P : Nat → Bool} {k : Nat} : ∀ {m : Nat}, (prF P m).testBit k = (decide (k < m) && P k)
  | 0 => by
    show (0 : Nat).testBit k = _
    rw [Nat.zero_testBit, decide_eq_false (Nat.not_lt_zero k), Bool.false_and]
  | m + 1 => by
    have ih := prF_bit (P := P) (k := k) (m := m)
    unfold prF
    by_cases q : k = m
    · subst q
      rw [decide_eq_true (Nat.lt_succ_self k), Bool.true_and]
      split
      · rename_i h
        rw [tb_or, decide_eq_true rfl, Bool.or_true, h]
      · rename_i h
        rw [ih, decide_eq_false (Nat.lt_irrefl k), Bool.false_and]
        cases e : P k
        · rfl
        · exact absurd e h
    · have e : decide (k < m + 1) = decide (k < m) := decide_eq_decide.mpr ⟨fun z => by omega, fun z => by omega⟩
      rw [e]
      split
      · rw [tb_or, decide_eq_false (fun z => q z.symm), Bool.or_false, ih]
      · exact ih
def zrB (tw : Nat → Nat) (k : Nat) : Bool := Nat.beq (tw k) 0
def dsB (tw : Nat → Nat) (n S : Nat) : Bool := Nat.beq (S &&& prF (zrB tw) n) 0
theorem fl_flt {tw tx ty : Nat → Nat} {n p : Nat} {a b : Int32} (hn : n ≤ 9) : bsG (flB tw tx ty n p a b) (2 ^ n) = bsG (fun S => dsB tw n S && flB tw tx ty n p a b S) (2 ^ n) := by
  refine bs_flt (fun S hS hp hd => ?_)
  have h9 : 2 ^ n ≤ 2 ^ 9 := Nat.pow_le_pow_right (by omega) hn
  have h9 : 2 ^ n ≤ 512 := h9
  have ne : ¬ S &&& prF (zrB tw) n = 0 := fun z => by
    unfold dsB at hd
    rw [z] at hd
    cases hd
  obtain ⟨k, hk⟩ := Nat.exists_testBit_of_ne_zero ne
  rw [Nat.testBit_and, prF_bit, Bool.and_eq_true, Bool.and_eq_true] at hk
  obtain ⟨k1, k2, k3⟩ := hk
  have k2 := of_decide_eq_true k2
  have k3 : tw k = 0 := Nat.eq_of_beq_eq_true k3
  obtain ⟨s1, s2, s3⟩ := sub_k (S := S) (k := k) (by omega) (by omega) k1
  refine ⟨S - 2 ^ k, s1, ?_, s3⟩
  unfold flB at hp ⊢
  have eA : plB (tA tw tx p) (fun i => !(S - 2 ^ k).testBit i) n = plB (tA tw tx p) (fun i => !S.testBit i) n := plB_z (fun i hi => by
    by_cases q : i = k
    · subst q
      exact Or.inr (by unfold tA; rw [k3]; exact tm_0)
    · exact Or.inl (congrArg (fun x => !x) (s2 i (by omega) q)))
  have eL : plB (tL tw ty p) (fun i => !(S - 2 ^ k).testBit i) n = plB (tL tw ty p) (fun i => !S.testBit i) n := plB_z (fun i hi => by
    by_cases q : i = k
    · subst q
      exact Or.inr (by unfold tL; rw [k3]; exact tm_0)
    · exact Or.inl (congrArg (fun x => !x) (s2 i (by omega) q)))
  rw [eA, eL]
  exact hp
theorem i3 {x : Int32} (h : -1 ≤ x.toInt ∧ x.toInt ≤ 1) : x = -1 ∨ x = 0 ∨ x = 1 := by
  rcases (by omega : x.toInt = -1 ∨ x.toInt = 0 ∨ x.toInt = 1) with q | q | q
  · exact Or.inl (i32eq.mpr q)
  · exact Or.inr (Or.inl (i32eq.mpr q))
  · exact Or.inr (Or.inr (i32eq.mpr q))

