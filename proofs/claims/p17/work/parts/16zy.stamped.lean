/-! ===== stamped: where some of them bring a letter ===== -/
theorem stY {a b : Int32} (ha : -100 ≤ a.toInt ∧ a.toInt ≤ 100) (hb : -100 ≤ b.toInt ∧ b.toInt ≤ 100) : (wpV a b = 0 ∧ a.toInt = 0 ∧ b.toInt = 0) ∨ (wpV a b = 1 ∧ 0 < a.toInt ∧ (szI b).toInt ≤ (szI a).toInt) ∨ (wpV a b = 2 ∧ a.toInt < 0 ∧ (szI b).toInt ≤ (szI a).toInt) ∨ (wpV a b = 4 ∧ 0 < b.toInt ∧ (szI a).toInt < (szI b).toInt) ∨ (wpV a b = 8 ∧ b.toInt < 0 ∧ (szI a).toInt < (szI b).toInt) := by
  have ia := ab_i ha
  have ib := ab_i hb
  by_cases q : f_abs a < f_abs b
  · have q' := Int32.lt_iff_toInt_lt.mp q
    have m : f_max (f_abs a) (f_abs b) = f_abs b := if_pos q
    have p : (0 : Int32) < f_max (f_abs a) (f_abs b) := by
      rw [m]
      exact Int32.lt_iff_toInt_lt.mpr (by rw [z0i]; omega)
    have e : wpV a b = wbV 0 (sgV b) := by
      unfold wpV
      rw [if_pos p, if_pos q]
      exact wbLs
    rw [e]
    rcases (by omega : 0 < b.toInt ∨ b.toInt < 0) with h | h
    · rw [sg_p h]
      exact Or.inr (Or.inr (Or.inr (Or.inl ⟨by decide, h, by omega⟩)))
    · rw [sg_n h]
      exact Or.inr (Or.inr (Or.inr (Or.inr ⟨by decide, h, by omega⟩)))
  · have q' : (f_abs b).toInt ≤ (f_abs a).toInt := by
      rcases (show (f_abs a).toInt < (f_abs b).toInt ∨ (f_abs b).toInt ≤ (f_abs a).toInt by omega) with z | z
      · exact absurd (Int32.lt_iff_toInt_lt.mpr z) q
      · exact z
    have m : f_max (f_abs a) (f_abs b) = f_abs a := if_neg q
    by_cases p : (0 : Int32) < f_max (f_abs a) (f_abs b)
    · have p' := Int32.lt_iff_toInt_lt.mp p
      rw [m, z0i] at p'
      have e : wpV a b = wbV (sgV a) 0 := by
        unfold wpV
        rw [if_pos p, if_neg q]
        exact wbAs
      rw [e]
      rcases (by omega : 0 < a.toInt ∨ a.toInt < 0) with h | h
      · rw [sg_p h]
        exact Or.inr (Or.inl ⟨by decide, h, by omega⟩)
      · rw [sg_n h]
        exact Or.inr (Or.inr (Or.inl ⟨by decide, h, by omega⟩))
    · have e : wpV a b = 0 := by
        unfold wpV
        rw [if_neg p]
      have p' : ¬ 0 < (f_abs a).toInt := fun z => p (by rw [m]; exact Int32.lt_iff_toInt_lt.mpr (by rw [z0i]; exact z))
      exact Or.inl ⟨e, by omega, by omega⟩
theorem plB_le {t : Nat → Int32} {B : Nat → Bool} : ∀ {n : Nat}, n ≤ 9 → (∀ i, i < n → -2 ≤ (t i).toInt ∧ (t i).toInt ≤ 0) → -2 * (n : Int) ≤ (plB t B n).toInt ∧ (plB t B n).toInt ≤ 0
  | 0, _, _ => ⟨by show -2 * ((0 : Nat) : Int) ≤ (0 : Int32).toInt; decide, by show (0 : Int32).toInt ≤ 0; decide⟩
  | n + 1, hn, h => by
    have ih := plB_le (t := t) (B := B) (n := n) (by omega) (fun i hi => h i (by omega))
    have a := h n (by omega)
    unfold plB
    split
    · unfold f_add
      rw [Int32.toInt_add, bm (by omega) (by omega)]
      omega
    · omega
theorem plB_ge {t : Nat → Int32} {B : Nat → Bool} : ∀ {n : Nat}, n ≤ 9 → (∀ i, i < n → 0 ≤ (t i).toInt ∧ (t i).toInt ≤ 2) → 0 ≤ (plB t B n).toInt ∧ (plB t B n).toInt ≤ 2 * (n : Int)
  | 0, _, _ => ⟨by show 0 ≤ (0 : Int32).toInt; decide, by show (0 : Int32).toInt ≤ 2 * ((0 : Nat) : Int); decide⟩
  | n + 1, hn, h => by
    have ih := plB_ge (t := t) (B := B) (n := n) (by omega) (fun i hi => h i (by omega))
    have a := h n (by omega)
    unfold plB
    split
    · unfold f_add
      rw [Int32.toInt_add, bm (by omega) (by omega)]
      omega
    · omega
theorem sd_le {u v : Nat} (h : v ≤ u) : sdV u v = 0 ∨ sdV u v = -1 := by
  by_cases e : u = v
  · exact Or.inl (if_pos e)
  · exact Or.inr ((if_neg e).trans (if_pos h))
theorem sd_ge {u v : Nat} (h : u ≤ v) : sdV u v = 0 ∨ sdV u v = 1 := by
  by_cases e : u = v
  · exact Or.inl (if_pos e)
  · exact Or.inr ((if_neg e).trans (if_neg (by omega)))
theorem tmz_le {w u v : Nat} (hw : w ≤ 2) (h : v ≤ u) : -2 ≤ (f_mul (nI w) (sdV u v)).toInt ∧ (f_mul (nI w) (sdV u v)).toInt ≤ 0 := by
  rcases (by omega : w = 0 ∨ w = 1 ∨ w = 2) with rfl | rfl | rfl <;> rcases sd_le h with e | e <;> rw [e] <;> decide
theorem tmz_ge {w u v : Nat} (hw : w ≤ 2) (h : u ≤ v) : 0 ≤ (f_mul (nI w) (sdV u v)).toInt ∧ (f_mul (nI w) (sdV u v)).toInt ≤ 2 := by
  rcases (by omega : w = 0 ∨ w = 1 ∨ w = 2) with rfl | rfl | rfl <;> rcases sd_ge h with e | e <;> rw [e] <;> decide
/-- a way that stays on the map -/
def stO (w : Int32) (p : Nat) : Prop := w = 0 ∨ (w = 1 ∧ p % 24 < 23) ∨ (w = 2 ∧ 0 < p % 24) ∨ (w = 4 ∧ p / 24 < 15) ∨ (w = 8 ∧ 0 < p / 24)
def stD (tw tx ty : Nat → Nat) (B : Nat → Bool) (n p : Nat) : Int32 := wpV (plB (tA tw tx p) B n) (plB (tL tw ty p) B n)
def crB (tw tx ty : Nat → Nat) (n : Nat) : Prop := ∀ i, i < n → tw i ≤ 2 ∧ tx i ≤ 23 ∧ ty i ≤ 15
theorem pl_b {tw tx ty : Nat → Nat} {B : Nat → Bool} {n p : Nat} (hn : n ≤ 9) (h : crB tw tx ty n) : (-100 ≤ (plB (tA tw tx p) B n).toInt ∧ (plB (tA tw tx p) B n).toInt ≤ 100) ∧ (-100 ≤ (plB (tL tw ty p) B n).toInt ∧ (plB (tL tw ty p) B n).toInt ≤ 100) := by
  have i1 := plB_i (t := tA tw tx p) (B := B) hn (fun i hi => tm_i (h i hi).1)
  have i2 := plB_i (t := tL tw ty p) (B := B) hn (fun i hi => tm_i (h i hi).1)
  exact ⟨⟨by omega, by omega⟩, by omega, by omega⟩
theorem stD_ok {tw tx ty : Nat → Nat} {B : Nat → Bool} {n p : Nat} (hn : n ≤ 9) (h : crB tw tx ty n) (hp : p ≤ 383) : stO (stD tw tx ty B n p) p := by
  obtain ⟨ha, hb⟩ := pl_b (B := B) (p := p) hn h
  have u1 : p % 24 < 23 ∨ (plB (tA tw tx p) B n).toInt ≤ 0 := by
    by_cases q : p % 24 < 23
    · exact Or.inl q
    · exact Or.inr (plB_le (t := tA tw tx p) (B := B) hn (fun i hi => tmz_le (h i hi).1 (by have := (h i hi).2.1; omega))).2
  have u2 : 0 < p % 24 ∨ 0 ≤ (plB (tA tw tx p) B n).toInt := by
    by_cases q : 0 < p % 24
    · exact Or.inl q
    · exact Or.inr (plB_ge (t := tA tw tx p) (B := B) hn (fun i hi => tmz_ge (h i hi).1 (by omega))).1
  have u3 : p / 24 < 15 ∨ (plB (tL tw ty p) B n).toInt ≤ 0 := by
    by_cases q : p / 24 < 15
    · exact Or.inl q
    · exact Or.inr (plB_le (t := tL tw ty p) (B := B) hn (fun i hi => tmz_le (h i hi).1 (by have := (h i hi).2.2; omega))).2
  have u4 : 0 < p / 24 ∨ 0 ≤ (plB (tL tw ty p) B n).toInt := by
    by_cases q : 0 < p / 24
    · exact Or.inl q
    · exact Or.inr (plB_ge (t := tL tw ty p) (B := B) hn (fun i hi => tmz_ge (h i hi).1 (by omega))).1
  unfold stD stO
  rcases stY ha hb with ⟨e, a1, b1⟩ | ⟨e, a1, _⟩ | ⟨e, a1, _⟩ | ⟨e, b1, _⟩ | ⟨e, b1, _⟩
  · exact Or.inl e
  · exact Or.inr (Or.inl ⟨e, by omega⟩)
  · exact Or.inr (Or.inr (Or.inl ⟨e, by omega⟩))
  · exact Or.inr (Or.inr (Or.inr (Or.inl ⟨e, by omega⟩)))
  · exact Or.inr (Or.inr (Or.inr (Or.inr ⟨e, by omega⟩)))
def stX (w : Int32) (p : Nat) : Nat := if w = 1 then p + 1 else if w = 2 then p - 1 else if w = 4 then p + 24 else if w = 8 then p - 24 else p
theorem stX1 {p : Nat} : stX 1 p = p + 1 := if_pos rfl
theorem stX2 {p : Nat} : stX 2 p = p - 1 := (if_neg (by decide)).trans (if_pos rfl)
theorem stX4 {p : Nat} : stX 4 p = p + 24 := (if_neg (by decide)).trans ((if_neg (by decide)).trans (if_pos rfl))
theorem stX8 {p : Nat} : stX 8 p = p - 24 := (if_neg (by decide)).trans ((if_neg (by decide)).trans ((if_neg (by decide)).trans (if_pos rfl)))
theorem stX0 {p : Nat} : stX 0 p = p := (if_neg (by decide)).trans ((if_neg (by decide)).trans ((if_neg (by decide)).trans (if_neg (by decide))))
theorem stX_le {w : Int32} {p : Nat} (h : stO w p) (hp : p ≤ 383) : stX w p ≤ 383 ∧ (¬ w = 0 → ¬ stX w p = p) := by
  rcases h with rfl | ⟨rfl, h⟩ | ⟨rfl, h⟩ | ⟨rfl, h⟩ | ⟨rfl, h⟩
  · rw [stX0]
    exact ⟨hp, fun z => absurd rfl z⟩
  · rw [stX1]
    exact ⟨by omega, fun _ => by omega⟩
  · rw [stX2]
    exact ⟨by omega, fun _ => by omega⟩
  · rw [stX4]
    exact ⟨by omega, fun _ => by omega⟩
  · rw [stX8]
    exact ⟨by omega, fun _ => by omega⟩
theorem nI_m1 {k : Nat} (h1 : 1 ≤ k) (h2 : k < 1000) : nI k + (-1) = nI (k - 1) := i32eq.mpr (by
  have e : (-1 : Int32).toInt = -1 := rfl
  rw [Int32.toInt_add, nI_toInt (by omega), nI_toInt (by omega), e, bm (by omega) (by omega)]
  omega)
theorem nI_m24 {k : Nat} (h1 : 24 ≤ k) (h2 : k < 1000) : f_add (nI k) (f_mul 24 (-1)) = nI (k - 24) := i32eq.mpr (by
  have e : (f_mul 24 (-1) : Int32).toInt = -24 := rfl
  unfold f_add
  rw [Int32.toInt_add, nI_toInt (by omega), nI_toInt (by omega), e, bm (by omega) (by omega)]
  omega)
theorem inR {X : Int32} {x hi : Nat} (e : X = nI x) (h : x ≤ hi) (hh : hi < 1000) : nI 0 ≤ X ∧ X ≤ nI hi := by
  rw [e]
  exact (nI_bt (by omega) hh (by omega)).mpr ⟨by omega, h⟩
theorem outV {X Y : Int32} {x y w : Nat} (eX : X = nI x) (eY : Y = nI y) (e : 24 * y + x = w) : f_add (f_mul 24 Y) X = nI w := by
  rw [eX, eY, ← e]
  show nI 24 * nI y + nI x = _
  rw [nI_mul]
  exact nI_add _ _
set_option maxRecDepth 100000 in
theorem c_X11_stepFrom {l : Launch} {w : Int32} {p : Nat} (hp : p ≤ 383) (hw : stO w p) (h0 : ¬ w = 0) : MetP l 1 yX11_stepFrom cX11_stepFrom 4 (some .int) 0 0 [.inl (nI p), .inl w] [] (fun r h' => r = some (.inl (nI (stX w p))) ∧ h' = []) := by
  have er : nI p - nI p / 24 * 24 = nI (p % 24) := rem_n (b := 24) (by omega) (by omega) (by omega)
  have ed : nI p / 24 = nI (p / 24) := div_n (b := 24) (by omega) (by omega) (by omega)
  refine m_X11_stepFrom (Nat.le_of_ble_eq_true rfl) ?_
  refine And.intro (show ¬ (24 : Int32) = 0 by decide) ?_
  refine And.intro (show ¬ (24 : Int32) = 0 by decide) ?_
  obtain ⟨R, eR⟩ : ∃ R, R = nI p - nI p / 24 * 24 := ⟨_, rfl⟩
  obtain ⟨D, eD⟩ : ∃ D, D = nI p / 24 := ⟨_, rfl⟩
  rw [← eR, ← eD]
  rw [← eR] at er
  rw [← eD] at ed
  clear eR eD
  rcases hw with z | ⟨rfl, h⟩ | ⟨rfl, h⟩ | ⟨rfl, h⟩ | ⟨rfl, h⟩
  · exact absurd z h0
  · have e : 24 * (p / 24) + (p % 24 + 1) = stX 1 p := by rw [stX1]; omega
    have eX : R + 1 = nI (p % 24 + 1) := by rw [er]; exact nI_1 _
    have eY : D = nI (p / 24) := ed
    refine And.intro (fun _ => ?_) (fun z => absurd rfl z)
    refine call0 (c_within) rfl rfl ?_
    rintro r h' ⟨rfl, rfl⟩
    refine br_b (fun z => absurd (inR (hi := 23) eX (by omega) (by omega)) z) (fun _ => ?_)
    refine call0 (c_within) rfl rfl ?_
    rintro r h' ⟨rfl, rfl⟩
    refine br_b (fun z => absurd (inR (hi := 15) eY (by omega) (by omega)) z) (fun _ => ?_)
    exact ⟨congrArg (fun x : Int32 => some (Sum.inl x : PV)) (outV eX eY e), rfl⟩
  · have e : 24 * (p / 24) + (p % 24 - 1) = stX 2 p := by rw [stX2]; omega
    have eX : R + (-1) = nI (p % 24 - 1) := by rw [er]; exact nI_m1 (by omega) (by omega)
    have eY : D = nI (p / 24) := ed
    refine And.intro (fun z => absurd z (by show ¬ ((_ : Int32) = _); decide)) (fun _ => ?_)
    refine And.intro (fun _ => ?_) (fun z => absurd rfl z)
    refine call0 (c_within) rfl rfl ?_
    rintro r h' ⟨rfl, rfl⟩
    refine br_b (fun z => absurd (inR (hi := 23) eX (by omega) (by omega)) z) (fun _ => ?_)
    refine call0 (c_within) rfl rfl ?_
    rintro r h' ⟨rfl, rfl⟩
    refine br_b (fun z => absurd (inR (hi := 15) eY (by omega) (by omega)) z) (fun _ => ?_)
    exact ⟨congrArg (fun x : Int32 => some (Sum.inl x : PV)) (outV eX eY e), rfl⟩
  · have e : 24 * (p / 24 + 1) + (p % 24) = stX 4 p := by rw [stX4]; omega
    have eX : R = nI (p % 24) := er
    have eY : D + 1 = nI (p / 24 + 1) := by rw [ed]; exact nI_1 _
    refine And.intro (fun z => absurd z (by show ¬ ((_ : Int32) = _); decide)) (fun _ => ?_)
    refine And.intro (fun z => absurd z (by show ¬ ((_ : Int32) = _); decide)) (fun _ => ?_)
    refine And.intro (fun _ => ?_) (fun z => absurd rfl z)
    refine call0 (c_within) rfl rfl ?_
    rintro r h' ⟨rfl, rfl⟩
    refine br_b (fun z => absurd (inR (hi := 23) eX (by omega) (by omega)) z) (fun _ => ?_)
    refine call0 (c_within) rfl rfl ?_
    rintro r h' ⟨rfl, rfl⟩
    refine br_b (fun z => absurd (inR (hi := 15) eY (by omega) (by omega)) z) (fun _ => ?_)
    exact ⟨congrArg (fun x : Int32 => some (Sum.inl x : PV)) (outV eX eY e), rfl⟩
  · have e : 24 * (p / 24 - 1) + (p % 24) = stX 8 p := by rw [stX8]; omega
    have eX : R = nI (p % 24) := er
    have eY : D + (-1) = nI (p / 24 - 1) := by rw [ed]; exact nI_m1 (by omega) (by omega)
    refine And.intro (fun z => absurd z (by show ¬ ((_ : Int32) = _); decide)) (fun _ => ?_)
    refine And.intro (fun z => absurd z (by show ¬ ((_ : Int32) = _); decide)) (fun _ => ?_)
    refine And.intro (fun z => absurd z (by show ¬ ((_ : Int32) = _); decide)) (fun _ => ?_)
    refine And.intro (fun _ => ?_) (fun z => absurd rfl z)
    refine call0 (c_within) rfl rfl ?_
    rintro r h' ⟨rfl, rfl⟩
    refine br_b (fun z => absurd (inR (hi := 23) eX (by omega) (by omega)) z) (fun _ => ?_)
    refine call0 (c_within) rfl rfl ?_
    rintro r h' ⟨rfl, rfl⟩
    refine br_b (fun z => absurd (inR (hi := 15) eY (by omega) (by omega)) z) (fun _ => ?_)
    exact ⟨congrArg (fun x : Int32 => some (Sum.inl x : PV)) (outV eX eY e), rfl⟩
set_option maxRecDepth 100000 in
theorem c_X7_isWallV {l : Launch} {Rep_toldMints Rep_walls Rep_stamps : Int32} {Rep_mintX Rep_mintY Rep_wall Rep_mintOf Rep_grainsOf : Nat → Int32}  {W : Nat → Bool} {p : Nat} (hp : p ≤ 383) (hW : ∀ i, i ≤ 383 → (Rep_wall i = 0 ↔ W i = false)) : MetP l 2 yX7_isWall cX7_isWall 2 (some .boolean) 0 0 [.inr (some (.inl 0)), .inl (nI p)] [.inr (6, [.inr (some (.inl 1)), .inr (some (.inl 2)), .inr (some (.inl 3)), .inr (some (.inl 4)), .inr (some (.inl 5)), .inl Rep_toldMints, .inl Rep_walls, .inl Rep_stamps]), .inl (0, 8, Rep_mintX), .inl (0, 8, Rep_mintY), .inl (2, 384, Rep_wall), .inl (0, 48, Rep_mintOf), .inl (0, 48, Rep_grainsOf)] (fun r h' => r = some (.inl (bI (W p = true))) ∧ h' = [.inr (6, [.inr (some (.inl 1)), .inr (some (.inl 2)), .inr (some (.inl 3)), .inr (some (.inl 4)), .inr (some (.inl 5)), .inl Rep_toldMints, .inl Rep_walls, .inl Rep_stamps]), .inl (0, 8, Rep_mintX), .inl (0, 8, Rep_mintY), .inl (2, 384, Rep_wall), .inl (0, 48, Rep_mintOf), .inl (0, 48, Rep_grainsOf)]) := by
  refine m_X7_isWall (Nat.le_of_ble_eq_true rfl) ?_
  refine call0 (c_isPlace) rfl rfl ?_
  rintro r h' ⟨rfl, rfl⟩
  refine br_b (fun z => absurd ((nI_bt (a := 0) (b := 383) (by omega) (by omega) (by omega)).mpr ⟨by omega, hp⟩) z) (fun _ => ?_)
  refine And.intro (vp_in_nI (n := p) (by omega) (by omega)) ?_
  rw [nI_clamp (by omega)]
  refine And.intro (fun (q : Rep_wall p = 0) => ?_) (fun (q : ¬ Rep_wall p = 0) => ?_)
  · exact And.intro (Or.inl rfl) (by rw [bI_f (by rw [(hW p hp).mp q]; decide)]; exact ⟨rfl, rfl⟩)
  · have w : W p = true := by
      cases e : W p
      · exact absurd ((hW p hp).mpr e) q
      · rfl
    exact And.intro (Or.inr rfl) (by rw [bI_t w]; exact ⟨rfl, rfl⟩)
/-- where they bring it in d days: nowhere, if into a wall -/
def goP (tw tx ty : Nat → Nat) (B W : Nat → Bool) (n : Nat) : Nat → Nat → Option Nat
  | 0, p => some p
  | d + 1, p => if ¬ stX (stD tw tx ty B n p) p = p ∧ W (stX (stD tw tx ty B n p) p) = true then none else goP tw tx ty B W n d (stX (stD tw tx ty B n p) p)
theorem goP_0 {tw tx ty : Nat → Nat} {B W : Nat → Bool} {n p : Nat} (h : stD tw tx ty B n p = 0) : ∀ d, goP tw tx ty B W n d p = some p
  | 0 => rfl
  | d + 1 => by
    have e : stX (stD tw tx ty B n p) p = p := by rw [h, stX0]
    unfold goP
    rw [if_neg (fun z => z.1 e), e]
    exact goP_0 h d
theorem goP_le {tw tx ty : Nat → Nat} {B W : Nat → Bool} {n : Nat} (hn : n ≤ 9) (hb : crB tw tx ty n) : ∀ (d p : Nat), p ≤ 383 → ∀ q, goP tw tx ty B W n d p = some q → q ≤ 383
  | 0, p, hp, q, h => by cases h; exact hp
  | d + 1, p, hp, q, h => by
    unfold goP at h
    split at h
    · cases h
    · exact goP_le hn hb d _ (stX_le (stD_ok hn hb hp) hp).1 q h
theorem goP_s {tw tx ty : Nat → Nat} {B W : Nat → Bool} {n d k q : Nat} (h : k < d) : goP tw tx ty B W n (d - k) q = (if ¬ stX (stD tw tx ty B n q) q = q ∧ W (stX (stD tw tx ty B n q) q) = true then none else goP tw tx ty B W n (d - (k + 1)) (stX (stD tw tx ty B n q) q)) := by
  obtain ⟨e, he⟩ : ∃ e, d - k = e + 1 := ⟨d - (k + 1), by omega⟩
  have e2 : d - (k + 1) = e := by omega
  rw [he, e2]
  rfl
def pbV (g : Option Nat) : Int32 := match g with
  | none => -1
  | some q => nI q
theorem pb_eq {g : Option Nat} {to : Nat} (hto : to ≤ 383) (hg : ∀ q, g = some q → q ≤ 383) : pbV g = nI to ↔ g = some to := by
  cases g with
  | none =>
    refine ⟨fun z => ?_, fun z => by cases z⟩
    have z := congrArg Int32.toInt z
    rw [nI_toInt (by omega)] at z
    have e : (pbV none).toInt = -1 := rfl
    omega
  | some q =>
    have := hg q rfl
    show nI q = nI to ↔ _
    rw [nI_eq (by omega) (by omega)]
    exact ⟨fun z => congrArg some z, fun z => Option.some.inj z⟩
set_option maxRecDepth 100000 in
theorem c_X1_placeBehind {l : Launch} {Crew_acrossSum Crew_alongSum Rep_toldMints Rep_walls : Int32} {Crew_members Rep_mintX Rep_mintY Rep_wall Rep_mintOf Rep_grainsOf : Nat → Int32}  {K : Int32} {B W : Nat → Bool} {s tw tx ty : Nat → Nat} {n c p d : Nat} (hn : n ≤ 9) (hc : c ≤ 48) (hp : p ≤ 383) (hd : d ≤ 60) (hB : ∀ i, i < n → (hasB K (nI i) ↔ B i = true)) (hM : crC c Crew_members Rep_mintOf Rep_grainsOf Rep_mintX Rep_mintY s tw tx ty n) (hW : ∀ i, i ≤ 383 → (Rep_wall i = 0 ↔ W i = false)) : MetP l 5 yX1_placeBehind cX1_placeBehind 7 (some .int) 0 0 [.inr (some (.inl 0)), .inl K, .inl (nI p), .inl (nI d)] [.inr (1, [.inr (some (.inl 2)), .inr (some (.inl 1)), .inl ((nI n)), .inl Crew_acrossSum, .inl Crew_alongSum]), .inl (0, 9, Crew_members), .inr (6, [.inr (some (.inl 3)), .inr (some (.inl 4)), .inr (some (.inl 5)), .inr (some (.inl 6)), .inr (some (.inl 7)), .inl Rep_toldMints, .inl Rep_walls, .inl ((nI c))]), .inl (0, 8, Rep_mintX), .inl (0, 8, Rep_mintY), .inl (2, 384, Rep_wall), .inl (0, 48, Rep_mintOf), .inl (0, 48, Rep_grainsOf)] (fun r h' => ∃ a b : Int32, r = some (.inl (pbV (goP tw tx ty B W n d p))) ∧ h' = [.inr (1, [.inr (some (.inl 2)), .inr (some (.inl 1)), .inl ((nI n)), .inl a, .inl b]), .inl (0, 9, Crew_members), .inr (6, [.inr (some (.inl 3)), .inr (some (.inl 4)), .inr (some (.inl 5)), .inr (some (.inl 6)), .inr (some (.inl 7)), .inl Rep_toldMints, .inl Rep_walls, .inl ((nI c))]), .inl (0, 8, Rep_mintX), .inl (0, 8, Rep_mintY), .inl (2, 384, Rep_wall), .inl (0, 48, Rep_mintOf), .inl (0, 48, Rep_grainsOf)]) := by
  have hb : crB tw tx ty n := fun i hi => by
    obtain ⟨_, _, m, _, _, _, _, _, a, b, c⟩ := hM i hi
    exact ⟨c, a, b⟩
  refine m_X1_placeBehind (fun μ L st h => ∃ (k q : Nat) (a b : Int32) (z : Option PV), μ = d - k ∧ k ≤ d ∧ q ≤ 383 ∧ goP tw tx ty B W n (d - k) q = goP tw tx ty B W n d p ∧ L = [some (.inr (some (.inl 0))), some (.inl K), some (.inl (nI p)), some (.inl (nI d)), some (.inl (nI q)), some (.inl (nI k)), z] ∧ st = [] ∧ h = [.inr (1, [.inr (some (.inl 2)), .inr (some (.inl 1)), .inl ((nI n)), .inl a, .inl b]), .inl (0, 9, Crew_members), .inr (6, [.inr (some (.inl 3)), .inr (some (.inl 4)), .inr (some (.inl 5)), .inr (some (.inl 6)), .inr (some (.inl 7)), .inl Rep_toldMints, .inl Rep_walls, .inl ((nI c))]), .inl (0, 8, Rep_mintX), .inl (0, 8, Rep_mintY), .inl (2, 384, Rep_wall), .inl (0, 48, Rep_mintOf), .inl (0, 48, Rep_grainsOf)]) (Nat.le_of_ble_eq_true rfl) ?_ ?_
  · exact ⟨_, 0, p, _, _, none, rfl, by omega, hp, rfl, rfl, rfl, rfl⟩
  · rintro μ L st h ⟨k, q, a, b, z, hμ, h1, h2, hg, rfl, rfl, rfl⟩
    refine And.intro (fun q1 => ?_) (fun q1 => ?_)
    · have q1 := (nI_leI (by omega) (by omega)).mp q1
      obtain rfl : k = d := by omega
      rw [Nat.sub_self] at hg
      exact ⟨a, b, by rw [← hg]; rfl, rfl⟩
    · have q1 : k < d := Nat.lt_of_not_le fun z => q1 ((nI_leI (by omega) (by omega)).mpr z)
      have ok := stD_ok (B := B) hn hb h2
      have hl := stX_le ok h2
      have hl1 := hl.1
      refine call0 (c_X1_wayFrom (B := B) (s := s) (tw := tw) (tx := tx) (ty := ty) (n := n) (c := c) (p := q) hn hc h2 hB hM) rfl rfl ?_
      rintro r h' ⟨a', b', rfl, rfl⟩
      refine And.intro (fun (w : stD tw tx ty B n q = 0) => ?_) (fun (w : ¬ stD tw tx ty B n q = 0) => ?_)
      · exact ⟨a', b', by rw [← hg, goP_0 w]; rfl, rfl⟩
      · refine call0 (c_X11_stepFrom (w := stD tw tx ty B n q) (p := q) h2 ok w) rfl rfl ?_
        rintro r h' ⟨rfl, rfl⟩
        refine call0 (c_isPlace) rfl rfl ?_
        rintro r h' ⟨rfl, rfl⟩
        refine br_b (fun z => absurd ((nI_bt (a := 0) (b := 383) (by omega) (by omega) (by omega)).mpr ⟨by omega, hl1⟩) z) (fun _ => ?_)
        refine call0 (c_X7_isWallV (W := W) (p := stX (stD tw tx ty B n q) q) hl1 hW) rfl rfl ?_
        rintro r h' ⟨rfl, rfl⟩
        refine br_b (fun w' => ?_) (fun w' => ?_)
        · exact ⟨d - (k + 1), by omega, k + 1, stX (stD tw tx ty B n q) q, a', b', some (.inl (stD tw tx ty B n q)), rfl, by omega, hl1, by rw [← hg, goP_s q1, if_neg (fun z => w' z.2)], by rw [← nI_1 k] <;> rfl, rfl, rfl⟩
        · exact ⟨a', b', by rw [← hg, goP_s q1, if_pos ⟨hl.2 w, w'⟩]; rfl, rfl⟩
/-- does the set bring it there? -/
def brB (tw tx ty : Nat → Nat) (W : Nat → Bool) (n d p to S : Nat) : Bool := decide (goP tw tx ty S.testBit W n d p = some to)
set_option maxRecDepth 100000 in
theorem c_X1_fewestToBring {l : Launch} {Crew_acrossSum Crew_alongSum Rep_toldMints Rep_walls : Int32} {Crew_members Rep_mintX Rep_mintY Rep_wall Rep_mintOf Rep_grainsOf : Nat → Int32}  {W : Nat → Bool} {s tw tx ty : Nat → Nat} {n c p to d : Nat} (hn : n ≤ 9) (hc : c ≤ 48) (hp : p ≤ 383) (hto : to ≤ 383) (hd : d ≤ 60) (hM : crC c Crew_members Rep_mintOf Rep_grainsOf Rep_mintX Rep_mintY s tw tx ty n) (hW : ∀ i, i ≤ 383 → (Rep_wall i = 0 ↔ W i = false)) : MetP l 6 yX1_fewestToBring cX1_fewestToBring 6 (some .int) 0 0 [.inr (some (.inl 0)), .inl (nI p), .inl (nI to), .inl (nI d)] [.inr (1, [.inr (some (.inl 2)), .inr (some (.inl 1)), .inl ((nI n)), .inl Crew_acrossSum, .inl Crew_alongSum]), .inl (0, 9, Crew_members), .inr (6, [.inr (some (.inl 3)), .inr (some (.inl 4)), .inr (some (.inl 5)), .inr (some (.inl 6)), .inr (some (.inl 7)), .inl Rep_toldMints, .inl Rep_walls, .inl ((nI c))]), .inl (0, 8, Rep_mintX), .inl (0, 8, Rep_mintY), .inl (2, 384, Rep_wall), .inl (0, 48, Rep_mintOf), .inl (0, 48, Rep_grainsOf)] (fun r h' => ∃ a b : Int32, r = some (.inl (fwV (bsG (brB tw tx ty W n d p to) (2 ^ n)))) ∧ h' = [.inr (1, [.inr (some (.inl 2)), .inr (some (.inl 1)), .inl ((nI n)), .inl a, .inl b]), .inl (0, 9, Crew_members), .inr (6, [.inr (some (.inl 3)), .inr (some (.inl 4)), .inr (some (.inl 5)), .inr (some (.inl 6)), .inr (some (.inl 7)), .inl Rep_toldMints, .inl Rep_walls, .inl ((nI c))]), .inl (0, 8, Rep_mintX), .inl (0, 8, Rep_mintY), .inl (2, 384, Rep_wall), .inl (0, 48, Rep_mintOf), .inl (0, 48, Rep_grainsOf)]) := by
  have pw := pw_le n (by omega)
  have hb : crB tw tx ty n := fun i hi => by
    obtain ⟨_, _, m, _, _, _, _, _, a, b, c⟩ := hM i hi
    exact ⟨c, a, b⟩
  refine m_X1_fewestToBring (fun μ L st h => ∃ (j : Nat) (a b : Int32), μ = 2 ^ n - j ∧ j ≤ 2 ^ n ∧ L = [some (.inr (some (.inl 0))), some (.inl (nI p)), some (.inl (nI to)), some (.inl (nI d)), some (.inl (fwV (bsG (brB tw tx ty W n d p to) j))), some (.inl (nI j))] ∧ st = [] ∧ h = [.inr (1, [.inr (some (.inl 2)), .inr (some (.inl 1)), .inl ((nI n)), .inl a, .inl b]), .inl (0, 9, Crew_members), .inr (6, [.inr (some (.inl 3)), .inr (some (.inl 4)), .inr (some (.inl 5)), .inr (some (.inl 6)), .inr (some (.inl 7)), .inl Rep_toldMints, .inl Rep_walls, .inl ((nI c))]), .inl (0, 8, Rep_mintX), .inl (0, 8, Rep_mintY), .inl (2, 384, Rep_wall), .inl (0, 48, Rep_mintOf), .inl (0, 48, Rep_grainsOf)]) (Nat.le_of_ble_eq_true rfl) ?_ ?_
  · exact ⟨_, 0, _, _, rfl, by omega, rfl, rfl, rfl⟩
  · rintro μ L st h ⟨j, a, b, hμ, h1, rfl, rfl, rfl⟩
    refine And.intro (fun (q1 : f_shl 1 (nI n) ≤ nI j) => ?_) (fun (q1 : ¬ f_shl 1 (nI n) ≤ nI j) => ?_) <;> rw [pw_n n (by omega)] at q1
    · have q1 := (nI_leI (by omega) (by omega)).mp q1
      obtain rfl : j = 2 ^ n := by omega
      exact ⟨a, b, rfl, rfl⟩
    · have q1 : j < 2 ^ n := Nat.lt_of_not_le fun z => q1 ((nI_leI (by omega) (by omega)).mpr z)
      refine call0 (c_X1_placeBehind (B := j.testBit) (W := W) (s := s) (tw := tw) (tx := tx) (ty := ty) (n := n) (c := c) (p := p) (d := d) hn hc hp hd (fun i hi => hasB_n (by omega)) hM hW) rfl rfl ?_
      rintro r h' ⟨a', b', rfl, rfl⟩
      have hq := pb_eq (g := goP tw tx ty j.testBit W n d p) hto (goP_le hn hb d p hp)
      refine And.intro (fun (w : pbV (goP tw tx ty j.testBit W n d p) = nI to) => ?_) (fun (w : ¬ pbV (goP tw tx ty j.testBit W n d p) = nI to) => ?_)
      · have ew : bsG (brB tw tx ty W n d p to) (j + 1) = some (fewS (bsG (brB tw tx ty W n d p to) j) j) := if_pos (decide_eq_true (hq.mp w))
        refine call0 (c_X1_fewer (b := bsG (brB tw tx ty W n d p to) j) (j := j) (by omega) (fun x hx => by have := bsG_lt hx; omega)) rfl rfl ?_
        rintro r h' ⟨rfl, rfl⟩
        exact ⟨2 ^ n - (j + 1), by omega, j + 1, a', b', rfl, by omega, by rw [ew, ← nI_1 j] <;> rfl, rfl, rfl⟩
      · have ew : bsG (brB tw tx ty W n d p to) (j + 1) = bsG (brB tw tx ty W n d p to) j := if_neg (fun z => w (hq.mpr (of_decide_eq_true z)))
        exact ⟨2 ^ n - (j + 1), by omega, j + 1, a', b', rfl, by omega, by rw [ew, ← nI_1 j] <;> rfl, rfl, rfl⟩
def stV (c T : Nat) (fm fw fx fy o : Nat → Nat) (W : Nat → Bool) (n p to d w : Nat) : Int32 := if alW c T fm o n = true then szV (bsG (brB (fun i => fw (o i)) (fun i => fx (fm (o i))) (fun i => fy (fm (o i))) W n d p to) (2 ^ n)) w else -3
theorem stV_t {c T : Nat} {fm fw fx fy o : Nat → Nat} {W : Nat → Bool} {n p to d w : Nat} (h : alW c T fm o n = true) : stV c T fm fw fx fy o W n p to d w = szV (bsG (brB (fun i => fw (o i)) (fun i => fx (fm (o i))) (fun i => fy (fm (o i))) W n d p to) (2 ^ n)) w := if_pos h
theorem stV_f {c T : Nat} {fm fw fx fy o : Nat → Nat} {W : Nat → Bool} {n p to d w : Nat} (h : alW c T fm o n = false) : stV c T fm fw fx fy o W n p to d w = -3 := if_neg (by rw [h]; decide)
set_option maxRecDepth 100000 in
theorem c_X11_stamped {l : Launch} {HS_now HS_kept HS_trial HS_clerk HS_riddles HS_sheetReader HS_postReader HS_lawReader HS_seen HS_rules HS_spareRules : List (Option Nat)} {HS_wasKept Crew_size Crew_acrossSum Crew_alongSum Rep_walls : Int32} {Tape_bytes Crew_members Rep_mintX Rep_mintY Rep_wall Rep_mintOf Rep_grainsOf : Nat → Int32}  {W : Nat → Bool} {o fm fw fx fy : Nat → Nat} {n p to d w t c T : Nat} (hn1 : 1 ≤ n) (hn : n ≤ 9) (hp : p ≤ 383) (hto : to ≤ 383) (hd : d ≤ 60) (hw : w ≤ 1) (ht : t ≤ 260) (hnt : n ≤ t) (hc : c ≤ 48) (hm : ∀ s, s < c → fm s < 8 ∧ fw s ≤ 2 ∧ Rep_mintOf s = nI (fm s) ∧ Rep_grainsOf s = nI (fw s)) (hx : ∀ m, m < 8 → T.testBit m = true → fx m ≤ 23 ∧ fy m ≤ 15 ∧ Rep_mintX m = nI (fx m) ∧ Rep_mintY m = nI (fy m)) (hW : ∀ i, i ≤ 383 → (Rep_wall i = 0 ↔ W i = false)) (hb : ∀ i, i < n → o i ≤ 255 ∧ Tape_bytes i = nI (o i)) : MetP l 7 yX11_stamped cX11_stamped 6 (some .int) 0 0 [.inr (some (.inl 0)), .inl (nI n), .inl (nI p), .inl (nI to), .inl (nI d), .inl (nI w)] [.inr (10, [.inr (some (.inl 1)), .inr (some (.inl 5)), .inr (some (.inr HS_now)), .inr (some (.inr HS_kept)), .inr (some (.inr HS_trial)), .inr (some (.inr HS_clerk)), .inr (some (.inl 3)), .inr (some (.inr HS_riddles)), .inr (some (.inr HS_sheetReader)), .inr (some (.inr HS_postReader)), .inr (some (.inr HS_lawReader)), .inr (some (.inr HS_seen)), .inr (some (.inr HS_rules)), .inr (some (.inr HS_spareRules)), .inl HS_wasKept]), .inr (9, [.inr (some (.inl 2)), .inl ((nI t))]), .inl (0, 260, Tape_bytes), .inr (1, [.inr (some (.inl 5)), .inr (some (.inl 4)), .inl Crew_size, .inl Crew_acrossSum, .inl Crew_alongSum]), .inl (0, 9, Crew_members), .inr (6, [.inr (some (.inl 6)), .inr (some (.inl 7)), .inr (some (.inl 8)), .inr (some (.inl 9)), .inr (some (.inl 10)), .inl ((nI T)), .inl Rep_walls, .inl ((nI c))]), .inl (0, 8, Rep_mintX), .inl (0, 8, Rep_mintY), .inl (2, 384, Rep_wall), .inl (0, 48, Rep_mintOf), .inl (0, 48, Rep_grainsOf)] (fun r h' => ∃ (k : Nat) (mb : Nat → Int32) (a b : Int32), k ≤ 9 ∧ r = some (.inl (stV c T fm fw fx fy o W n p to d w)) ∧ h' = [.inr (10, [.inr (some (.inl 1)), .inr (some (.inl 5)), .inr (some (.inr HS_now)), .inr (some (.inr HS_kept)), .inr (some (.inr HS_trial)), .inr (some (.inr HS_clerk)), .inr (some (.inl 3)), .inr (some (.inr HS_riddles)), .inr (some (.inr HS_sheetReader)), .inr (some (.inr HS_postReader)), .inr (some (.inr HS_lawReader)), .inr (some (.inr HS_seen)), .inr (some (.inr HS_rules)), .inr (some (.inr HS_spareRules)), .inl HS_wasKept]), .inr (9, [.inr (some (.inl 2)), .inl 0]), .inl (0, 260, Tape_bytes), .inr (1, [.inr (some (.inl 5)), .inr (some (.inl 4)), .inl ((nI k)), .inl a, .inl b]), .inl (0, 9, mb), .inr (6, [.inr (some (.inl 6)), .inr (some (.inl 7)), .inr (some (.inl 8)), .inr (some (.inl 9)), .inr (some (.inl 10)), .inl ((nI T)), .inl Rep_walls, .inl ((nI c))]), .inl (0, 8, Rep_mintX), .inl (0, 8, Rep_mintY), .inl (2, 384, Rep_wall), .inl (0, 48, Rep_mintOf), .inl (0, 48, Rep_grainsOf)]) := by
  have pw := pw_le n (by omega)
  refine m_X11_stamped (Nat.le_of_ble_eq_true rfl) ?_
  refine call0 (c_isPlace) rfl rfl ?_
  rintro r h' ⟨rfl, rfl⟩
  refine br_b (fun z => absurd ((nI_bt (a := 0) (b := 383) (by omega) (by omega) (by omega)).mpr ⟨by omega, hp⟩) z) (fun _ => ?_)
  refine call0 (c_isPlace) rfl rfl ?_
  rintro r h' ⟨rfl, rfl⟩
  refine br_b (fun z => absurd ((nI_bt (a := 0) (b := 383) (by omega) (by omega) (by omega)).mpr ⟨by omega, hto⟩) z) (fun _ => ?_)
  refine call0 (c_within) rfl rfl ?_
  rintro r h' ⟨rfl, rfl⟩
  refine br_b (fun z => absurd ((nI_bt (a := 0) (b := 60) (by omega) (by omega) (by omega)).mpr ⟨by omega, hd⟩) z) (fun _ => ?_)
  refine call0 (c_within) rfl rfl ?_
  rintro r h' ⟨rfl, rfl⟩
  refine br_b (fun z => absurd ((nI_bt (a := 0) (b := 1) (by omega) (by omega) (by omega)).mpr ⟨by omega, hw⟩) z) (fun _ => ?_)
  refine call0 (c_canGive) rfl rfl ?_
  rintro r h' ⟨rfl, rfl⟩
  refine br_b (fun z => absurd ⟨(nI_bt (a := 1) (b := 9) (by omega) (by omega) (by omega)).mpr ⟨hn1, hn⟩, (nI_leI (by omega) (by omega)).mpr hnt⟩ z) (fun _ => ?_)
  refine call0 (c_X11_gatherCrew (o := o) (fm := fm) (n := n) (t := t) (c := c) (T := T) hn ht hnt hc (fun s hs => ⟨(hm s hs).1, (hm s hs).2.2.1⟩) hb) rfl rfl ?_
  rintro r h' ⟨k, mb, k9, hq, rfl⟩
  rcases hq with ⟨rfl, hf⟩ | ⟨rfl, hy, rfl, hmb⟩
  · refine And.intro (fun _ => ?_) (fun z => absurd rfl z)
    exact ⟨k, mb, _, _, k9, by rw [stV_f hf], rfl⟩
  · have hM := crC_of hy hmb hm hx
    refine And.intro (fun z => absurd z (by show ¬ ((_ : Int32) = _); decide)) (fun _ => ?_)
    refine call0 (c_X1_fewestToBring (W := W) (n := k) (c := c) (p := p) (to := to) (d := d) hn hc hp hto hd hM hW) rfl rfl ?_
    rintro r h' ⟨a', b', rfl, rfl⟩
    refine call0 (e_X11_sizeOrBits (w := w) (fun x hx => by have := bsG_lt hx; omega) hw) rfl rfl ?_
    rintro r h' ⟨rfl, rfl⟩
    exact ⟨k, mb, a', b', k9, by rw [stV_t hy], rfl⟩
/-! the other side -/
theorem e_X12_maxV {l : Launch} {x y : Int32} : MetP l 0 yX12_max cX12_max 2 (some .int) 0 0 [.inl x, .inl y] [] (fun r h' => r = some (.inl (if x ≤ y then y else x)) ∧ h' = []) := by
  refine m_X12_max (Nat.le_of_ble_eq_true rfl) ?_
  exact And.intro (fun (q : x ≤ y) => ⟨by rw [if_pos q], rfl⟩) (fun (q : ¬ x ≤ y) => ⟨by rw [if_neg q], rfl⟩)
theorem stE {a b : Int32} {p : Nat} (ha : -100 ≤ a.toInt ∧ a.toInt ≤ 100) (hb : -100 ≤ b.toInt ∧ b.toInt ≤ 100) (hp : p ≤ 383) (ok : stO (wpV a b) p) : ((0 : Int32) < (if szI a ≤ szI b then szI b else szI a) → szI a < szI b → f_add (nI p) (f_mul 24 (sgV b)) = nI (stX (wpV a b) p)) ∧ ((0 : Int32) < (if szI a ≤ szI b then szI b else szI a) → ¬ szI a < szI b → f_add (nI p) (sgV a) = nI (stX (wpV a b) p)) ∧ (¬ (0 : Int32) < (if szI a ≤ szI b then szI b else szI a) → nI p = nI (stX (wpV a b) p)) := by
  have ia := ab_i ha
  have ib := ab_i hb
  have hm : ((0 : Int32) < (if szI a ≤ szI b then szI b else szI a)) ↔ (0 < (szI a).toInt ∨ 0 < (szI b).toInt) := by
    split
    · rename_i z
      have z := Int32.le_iff_toInt_le.mp z
      rw [Int32.lt_iff_toInt_lt, z0i]
      exact ⟨fun h => Or.inr h, fun h => by omega⟩
    · rename_i z
      have z : ¬ (szI a).toInt ≤ (szI b).toInt := fun h => z (Int32.le_iff_toInt_le.mpr h)
      rw [Int32.lt_iff_toInt_lt, z0i]
      exact ⟨fun h => Or.inl h, fun h => by omega⟩
  rw [hm, Int32.lt_iff_toInt_lt]
  unfold stO at ok
  rcases stY ha hb with ⟨e, a1, b1⟩ | ⟨e, a1, z⟩ | ⟨e, a1, z⟩ | ⟨e, b1, z⟩ | ⟨e, b1, z⟩ <;> rw [e] at ok ⊢
  · exact ⟨fun h => by omega, fun h => by omega, fun _ => by rw [stX0]⟩
  · exact ⟨fun _ h => by omega, fun _ _ => by rw [stX1, sg_p a1]; exact nI_1 p, fun h => by omega⟩
  · have h0 : 0 < p % 24 := by
      rcases ok with q | ⟨q, _⟩ | ⟨_, q⟩ | ⟨q, _⟩ | ⟨q, _⟩
      · exact absurd q (by decide)
      · exact absurd q (by decide)
      · exact q
      · exact absurd q (by decide)
      · exact absurd q (by decide)
    exact ⟨fun _ h => by omega, fun _ _ => by rw [stX2, sg_n a1]; exact nI_m1 (by omega) (by omega), fun h => by omega⟩
  · exact ⟨fun _ _ => by rw [stX4, sg_p b1, show f_mul 24 1 = nI 24 by decide]; exact nI_add p 24, fun _ h => by omega, fun h => by omega⟩
  · have h0 : 0 < p / 24 := by
      rcases ok with q | ⟨q, _⟩ | ⟨q, _⟩ | ⟨q, _⟩ | ⟨_, q⟩
      · exact absurd q (by decide)
      · exact absurd q (by decide)
      · exact absurd q (by decide)
      · exact absurd q (by decide)
      · exact q
    exact ⟨fun _ _ => by rw [stX8, sg_n b1]; exact nI_m24 (by omega) (by omega), fun _ h => by omega, fun h => by omega⟩
theorem x_X12_stepFrom {l : Launch} {a b : Int32} {p : Nat} (ha : -100 ≤ a.toInt ∧ a.toInt ≤ 100) (hb : -100 ≤ b.toInt ∧ b.toInt ≤ 100) (hp : p ≤ 383) (ok : stO (wpV a b) p) : MetP l 1 yX12_stepFrom cX12_stepFrom 4 (some .int) 0 0 [.inl (nI p), .inl a, .inl b, .inl 0] [] (fun r h' => r = some (.inl (nI (stX (wpV a b) p))) ∧ h' = []) := by
  obtain ⟨e1, e2, e3⟩ := stE ha hb hp ok
  refine m_X12_stepFrom (Nat.le_of_ble_eq_true rfl) ?_
  refine call0 (e_X12_sizeV (K := a)) rfl rfl ?_
  rintro r h' ⟨rfl, rfl⟩
  refine call0 (e_X12_sizeV (K := b)) rfl rfl ?_
  rintro r h' ⟨rfl, rfl⟩
  refine call0 (e_X12_maxV) rfl rfl ?_
  rintro r h' ⟨rfl, rfl⟩
  refine And.intro (fun (q : (0 : Int32) < (if szI a ≤ szI b then szI b else szI a)) => ?_) (fun (q : ¬ (0 : Int32) < (if szI a ≤ szI b then szI b else szI a)) => ?_)
  · refine call0 (e_X12_sizeV (K := a)) rfl rfl ?_
    rintro r h' ⟨rfl, rfl⟩
    refine call0 (e_X12_sizeV (K := b)) rfl rfl ?_
    rintro r h' ⟨rfl, rfl⟩
    refine And.intro (fun (r : szI a < szI b) => ?_) (fun (r : ¬ szI a < szI b) => ?_)
    · refine call0 (e_X12_signV (K := b)) rfl rfl ?_
      rintro r h' ⟨rfl, rfl⟩
      exact ⟨congrArg (fun x : Int32 => some (Sum.inl x : PV)) (e1 q r), rfl⟩
    · refine call0 (e_X12_signV (K := a)) rfl rfl ?_
      rintro r h' ⟨rfl, rfl⟩
      exact ⟨congrArg (fun x : Int32 => some (Sum.inl x : PV)) (e2 q r), rfl⟩
  · exact ⟨congrArg (fun x : Int32 => some (Sum.inl x : PV)) (e3 q), rfl⟩
theorem x_X12_stepBy {l : Launch} {M_now M_aside M_kept M_isWall M_wasWall M_tape M_said M_waitsAt M_saidLetter M_saidFrom M_saidHalf M_saidTo M_codes M_clauseOf M_codeFrom M_codeHalf M_codeTo M_stack M_facts M_newStamps M_roundFrom M_roundAt M_roundTimes M_usesNow M_wasAt M_fewestFor M_getsOf : List (Option Nat)} {M_stampMany M_taped M_place0 M_length0 M_fault M_number0 M_open M_codeMany M_waiting M_saidMany M_clauses M_newMany M_rounds M_stampFrom M_stampTimes M_lines M_spot0 M_pullAcross M_pullAlong M_stepsNow M_fallenNow M_isKept : Int32} {M_mintAt M_mintOf M_wholeOf M_someOf : Nat → Int32}  {K : Int32} {B : Nat → Bool} {s tw tx ty : Nat → Nat} {n p : Nat} (hn : n ≤ 9) (hp : p ≤ 383) (hb : crB tw tx ty n) (hB : ∀ i, i < n → (hasB K (nI i) ↔ B i = true)) (hM : crR M_someOf M_mintOf M_wholeOf M_mintAt s tw tx ty n) : MetP l 3 yX12_stepBy cX12_stepBy 4 (some .int) 0 0 [.inr (some (.inl 0)), .inl K, .inl (nI n), .inl (nI p)] [.inr (11, [.inr (some (.inr M_now)), .inr (some (.inr M_aside)), .inr (some (.inr M_kept)), .inr (some (.inl 1)), .inr (some (.inl 2)), .inr (some (.inl 3)), .inr (some (.inr M_isWall)), .inr (some (.inr M_wasWall)), .inl M_stampMany, .inr (some (.inr M_tape)), .inl M_taped, .inl M_place0, .inl M_length0, .inl M_fault, .inl M_number0, .inl M_open, .inl M_codeMany, .inl M_waiting, .inl M_saidMany, .inl M_clauses, .inr (some (.inr M_said)), .inr (some (.inr M_waitsAt)), .inr (some (.inr M_saidLetter)), .inr (some (.inr M_saidFrom)), .inr (some (.inr M_saidHalf)), .inr (some (.inr M_saidTo)), .inr (some (.inr M_codes)), .inr (some (.inr M_clauseOf)), .inr (some (.inr M_codeFrom)), .inr (some (.inr M_codeHalf)), .inr (some (.inr M_codeTo)), .inr (some (.inr M_stack)), .inr (some (.inr M_facts)), .inr (some (.inr M_newStamps)), .inr (some (.inr M_roundFrom)), .inr (some (.inr M_roundAt)), .inr (some (.inr M_roundTimes)), .inl M_newMany, .inl M_rounds, .inl M_stampFrom, .inl M_stampTimes, .inl M_lines, .inl M_spot0, .inl M_pullAcross, .inl M_pullAlong, .inl M_stepsNow, .inl M_fallenNow, .inr (some (.inr M_usesNow)), .inr (some (.inr M_wasAt)), .inr (some (.inl 4)), .inr (some (.inr M_fewestFor)), .inr (some (.inr M_getsOf)), .inl M_isKept]), .inl (0, 8, M_mintAt), .inl (0, 48, M_mintOf), .inl (0, 48, M_wholeOf), .inl (0, 9, M_someOf)] (fun r h' => r = some (.inl (nI (stX (stD tw tx ty B n p) p))) ∧ h' = [.inr (11, [.inr (some (.inr M_now)), .inr (some (.inr M_aside)), .inr (some (.inr M_kept)), .inr (some (.inl 1)), .inr (some (.inl 2)), .inr (some (.inl 3)), .inr (some (.inr M_isWall)), .inr (some (.inr M_wasWall)), .inl M_stampMany, .inr (some (.inr M_tape)), .inl M_taped, .inl M_place0, .inl M_length0, .inl M_fault, .inl M_number0, .inl M_open, .inl M_codeMany, .inl M_waiting, .inl M_saidMany, .inl M_clauses, .inr (some (.inr M_said)), .inr (some (.inr M_waitsAt)), .inr (some (.inr M_saidLetter)), .inr (some (.inr M_saidFrom)), .inr (some (.inr M_saidHalf)), .inr (some (.inr M_saidTo)), .inr (some (.inr M_codes)), .inr (some (.inr M_clauseOf)), .inr (some (.inr M_codeFrom)), .inr (some (.inr M_codeHalf)), .inr (some (.inr M_codeTo)), .inr (some (.inr M_stack)), .inr (some (.inr M_facts)), .inr (some (.inr M_newStamps)), .inr (some (.inr M_roundFrom)), .inr (some (.inr M_roundAt)), .inr (some (.inr M_roundTimes)), .inl M_newMany, .inl M_rounds, .inl M_stampFrom, .inl M_stampTimes, .inl M_lines, .inl M_spot0, .inl M_pullAcross, .inl M_pullAlong, .inl M_stepsNow, .inl M_fallenNow, .inr (some (.inr M_usesNow)), .inr (some (.inr M_wasAt)), .inr (some (.inl 4)), .inr (some (.inr M_fewestFor)), .inr (some (.inr M_getsOf)), .inl M_isKept]), .inl (0, 8, M_mintAt), .inl (0, 48, M_mintOf), .inl (0, 48, M_wholeOf), .inl (0, 9, M_someOf)]) := by
  obtain ⟨ha, hc⟩ := pl_b (B := B) (p := p) hn hb
  refine m_X12_stepBy (Nat.le_of_ble_eq_true rfl) ?_
  refine call0 (e_X12_pullA (B := B) (n := n) (p := p) hn hp hB hM) rfl rfl ?_
  rintro r h' ⟨rfl, rfl⟩
  refine call0 (e_X12_pullL (B := B) (n := n) (p := p) hn hp hB hM) rfl rfl ?_
  rintro r h' ⟨rfl, rfl⟩
  refine call0 (x_X12_stepFrom ha hc hp (stD_ok hn hb hp)) rfl rfl ?_
  rintro r h' ⟨rfl, rfl⟩
  exact ⟨rfl, rfl⟩
theorem x_X12_brings {l : Launch} {M_now M_aside M_kept M_wasWall M_tape M_said M_waitsAt M_saidLetter M_saidFrom M_saidHalf M_saidTo M_codes M_clauseOf M_codeFrom M_codeHalf M_codeTo M_stack M_facts M_newStamps M_roundFrom M_roundAt M_roundTimes M_usesNow M_wasAt M_fewestFor M_getsOf : List (Option Nat)} {M_stampMany M_taped M_place0 M_length0 M_fault M_number0 M_open M_codeMany M_waiting M_saidMany M_clauses M_newMany M_rounds M_stampFrom M_stampTimes M_lines M_spot0 M_pullAcross M_pullAlong M_stepsNow M_fallenNow M_isKept : Int32} {M_mintAt M_mintOf M_wholeOf M_isWall M_someOf : Nat → Int32}  {K : Int32} {B W : Nat → Bool} {s tw tx ty : Nat → Nat} {n p to d : Nat} (hn : n ≤ 9) (hp : p ≤ 383) (hto : to ≤ 383) (hd : d ≤ 60) (hb : crB tw tx ty n) (hB : ∀ i, i < n → (hasB K (nI i) ↔ B i = true)) (hM : crR M_someOf M_mintOf M_wholeOf M_mintAt s tw tx ty n) (hW : ∀ i, i ≤ 383 → (M_isWall i = 0 ↔ W i = false)) : MetP l 4 yX12_brings cX12_brings 9 (some .boolean) 0 0 [.inr (some (.inl 0)), .inl K, .inl (nI n), .inl (nI p), .inl (nI to), .inl (nI d)] [.inr (11, [.inr (some (.inr M_now)), .inr (some (.inr M_aside)), .inr (some (.inr M_kept)), .inr (some (.inl 1)), .inr (some (.inl 2)), .inr (some (.inl 3)), .inr (some (.inl 4)), .inr (some (.inr M_wasWall)), .inl M_stampMany, .inr (some (.inr M_tape)), .inl M_taped, .inl M_place0, .inl M_length0, .inl M_fault, .inl M_number0, .inl M_open, .inl M_codeMany, .inl M_waiting, .inl M_saidMany, .inl M_clauses, .inr (some (.inr M_said)), .inr (some (.inr M_waitsAt)), .inr (some (.inr M_saidLetter)), .inr (some (.inr M_saidFrom)), .inr (some (.inr M_saidHalf)), .inr (some (.inr M_saidTo)), .inr (some (.inr M_codes)), .inr (some (.inr M_clauseOf)), .inr (some (.inr M_codeFrom)), .inr (some (.inr M_codeHalf)), .inr (some (.inr M_codeTo)), .inr (some (.inr M_stack)), .inr (some (.inr M_facts)), .inr (some (.inr M_newStamps)), .inr (some (.inr M_roundFrom)), .inr (some (.inr M_roundAt)), .inr (some (.inr M_roundTimes)), .inl M_newMany, .inl M_rounds, .inl M_stampFrom, .inl M_stampTimes, .inl M_lines, .inl M_spot0, .inl M_pullAcross, .inl M_pullAlong, .inl M_stepsNow, .inl M_fallenNow, .inr (some (.inr M_usesNow)), .inr (some (.inr M_wasAt)), .inr (some (.inl 5)), .inr (some (.inr M_fewestFor)), .inr (some (.inr M_getsOf)), .inl M_isKept]), .inl (0, 8, M_mintAt), .inl (0, 48, M_mintOf), .inl (0, 48, M_wholeOf), .inl (2, 384, M_isWall), .inl (0, 9, M_someOf)] (fun r h' => r = some (.inl (bI (goP tw tx ty B W n d p = some to))) ∧ h' = [.inr (11, [.inr (some (.inr M_now)), .inr (some (.inr M_aside)), .inr (some (.inr M_kept)), .inr (some (.inl 1)), .inr (some (.inl 2)), .inr (some (.inl 3)), .inr (some (.inl 4)), .inr (some (.inr M_wasWall)), .inl M_stampMany, .inr (some (.inr M_tape)), .inl M_taped, .inl M_place0, .inl M_length0, .inl M_fault, .inl M_number0, .inl M_open, .inl M_codeMany, .inl M_waiting, .inl M_saidMany, .inl M_clauses, .inr (some (.inr M_said)), .inr (some (.inr M_waitsAt)), .inr (some (.inr M_saidLetter)), .inr (some (.inr M_saidFrom)), .inr (some (.inr M_saidHalf)), .inr (some (.inr M_saidTo)), .inr (some (.inr M_codes)), .inr (some (.inr M_clauseOf)), .inr (some (.inr M_codeFrom)), .inr (some (.inr M_codeHalf)), .inr (some (.inr M_codeTo)), .inr (some (.inr M_stack)), .inr (some (.inr M_facts)), .inr (some (.inr M_newStamps)), .inr (some (.inr M_roundFrom)), .inr (some (.inr M_roundAt)), .inr (some (.inr M_roundTimes)), .inl M_newMany, .inl M_rounds, .inl M_stampFrom, .inl M_stampTimes, .inl M_lines, .inl M_spot0, .inl M_pullAcross, .inl M_pullAlong, .inl M_stepsNow, .inl M_fallenNow, .inr (some (.inr M_usesNow)), .inr (some (.inr M_wasAt)), .inr (some (.inl 5)), .inr (some (.inr M_fewestFor)), .inr (some (.inr M_getsOf)), .inl M_isKept]), .inl (0, 8, M_mintAt), .inl (0, 48, M_mintOf), .inl (0, 48, M_wholeOf), .inl (2, 384, M_isWall), .inl (0, 9, M_someOf)]) := by
  refine m_X12_brings (fun μ L st h => ∃ (k q : Nat) (z : Option PV), μ = d - k ∧ k ≤ d ∧ q ≤ 383 ∧ goP tw tx ty B W n (d - k) q = goP tw tx ty B W n d p ∧ L = [some (.inr (some (.inl 0))), some (.inl K), some (.inl (nI n)), some (.inl (nI p)), some (.inl (nI to)), some (.inl (nI d)), some (.inl (nI q)), some (.inl (nI k)), z] ∧ st = [] ∧ h = [.inr (11, [.inr (some (.inr M_now)), .inr (some (.inr M_aside)), .inr (some (.inr M_kept)), .inr (some (.inl 1)), .inr (some (.inl 2)), .inr (some (.inl 3)), .inr (some (.inl 4)), .inr (some (.inr M_wasWall)), .inl M_stampMany, .inr (some (.inr M_tape)), .inl M_taped, .inl M_place0, .inl M_length0, .inl M_fault, .inl M_number0, .inl M_open, .inl M_codeMany, .inl M_waiting, .inl M_saidMany, .inl M_clauses, .inr (some (.inr M_said)), .inr (some (.inr M_waitsAt)), .inr (some (.inr M_saidLetter)), .inr (some (.inr M_saidFrom)), .inr (some (.inr M_saidHalf)), .inr (some (.inr M_saidTo)), .inr (some (.inr M_codes)), .inr (some (.inr M_clauseOf)), .inr (some (.inr M_codeFrom)), .inr (some (.inr M_codeHalf)), .inr (some (.inr M_codeTo)), .inr (some (.inr M_stack)), .inr (some (.inr M_facts)), .inr (some (.inr M_newStamps)), .inr (some (.inr M_roundFrom)), .inr (some (.inr M_roundAt)), .inr (some (.inr M_roundTimes)), .inl M_newMany, .inl M_rounds, .inl M_stampFrom, .inl M_stampTimes, .inl M_lines, .inl M_spot0, .inl M_pullAcross, .inl M_pullAlong, .inl M_stepsNow, .inl M_fallenNow, .inr (some (.inr M_usesNow)), .inr (some (.inr M_wasAt)), .inr (some (.inl 5)), .inr (some (.inr M_fewestFor)), .inr (some (.inr M_getsOf)), .inl M_isKept]), .inl (0, 8, M_mintAt), .inl (0, 48, M_mintOf), .inl (0, 48, M_wholeOf), .inl (2, 384, M_isWall), .inl (0, 9, M_someOf)]) (Nat.le_of_ble_eq_true rfl) ?_ ?_
  · exact ⟨_, 0, p, none, rfl, by omega, hp, rfl, rfl, rfl, rfl⟩
  · rintro μ L st h ⟨k, q, z, hμ, h1, h2, hg, rfl, rfl, rfl⟩
    refine And.intro (fun q1 => ?_) (fun q1 => ?_)
    · have q1 := (nI_leI (by omega) (by omega)).mp q1
      obtain rfl : k = d := by omega
      rw [Nat.sub_self] at hg
      have hg : some q = goP tw tx ty B W n k p := hg
      refine And.intro (fun (e : nI q = nI to) => ?_) (fun (e : ¬ nI q = nI to) => ?_)
      · have e := (nI_eq (by omega) (by omega)).mp e
        exact And.intro (Or.inr rfl) (by rw [bI_t (by rw [← hg, e])]; exact ⟨rfl, rfl⟩)
      · have e : ¬ q = to := fun z => e (by rw [z])
        exact And.intro (Or.inl rfl) (by rw [bI_f (by rw [← hg]; exact fun z => e (Option.some.inj z))]; exact ⟨rfl, rfl⟩)
    · have q1 : k < d := Nat.lt_of_not_le fun z => q1 ((nI_leI (by omega) (by omega)).mpr z)
      have ok := stD_ok (B := B) hn hb h2
      have hl := stX_le ok h2
      have hl1 := hl.1
      refine call0 (x_X12_stepBy (B := B) (s := s) (tw := tw) (tx := tx) (ty := ty) (n := n) (p := q) hn h2 hb hB hM) rfl rfl ?_
      rintro r h' ⟨rfl, rfl⟩
      refine And.intro (fun (e : nI (stX (stD tw tx ty B n q) q) = nI q) => ?_) (fun (e : ¬ nI (stX (stD tw tx ty B n q) q) = nI q) => ?_)
      · have e := (nI_eq (by omega) (by omega)).mp e
        exact ⟨d - (k + 1), by omega, k + 1, stX (stD tw tx ty B n q) q, some (.inl (nI (stX (stD tw tx ty B n q) q))), rfl, by omega, hl1, by rw [← hg, goP_s q1, if_neg (fun z => z.1 e)], by rw [← nI_1 k] <;> rfl, rfl, rfl⟩
      · have e : ¬ stX (stD tw tx ty B n q) q = q := fun z => e (by rw [z])
        refine And.intro (vp_in_nI (n := stX (stD tw tx ty B n q) q) (by omega) (by omega)) ?_
        rw [nI_clamp (by omega)]
        refine And.intro (fun (v : M_isWall (stX (stD tw tx ty B n q) q) = 0) => ?_) (fun (v : ¬ M_isWall (stX (stD tw tx ty B n q) q) = 0) => ?_)
        · have v := (hW _ hl1).mp v
          exact ⟨d - (k + 1), by omega, k + 1, stX (stD tw tx ty B n q) q, some (.inl (nI (stX (stD tw tx ty B n q) q))), rfl, by omega, hl1, by rw [← hg, goP_s q1, if_neg (fun z => by rw [v] at z; cases z.2)], by rw [← nI_1 k] <;> rfl, rfl, rfl⟩
        · have v : W (stX (stD tw tx ty B n q) q) = true := by
            cases e : W (stX (stD tw tx ty B n q) q)
            · exact absurd ((hW _ hl1).mpr e) v
            · rfl
          exact And.intro (Or.inl rfl) (by rw [bI_f (by rw [← hg, goP_s q1, if_pos ⟨e, v⟩]; exact fun z => by cases z)]; exact ⟨rfl, rfl⟩)
theorem x_X12_stamped {l : Launch} {M_now M_aside M_kept M_wasWall M_said M_waitsAt M_saidLetter M_saidFrom M_saidHalf M_saidTo M_codes M_clauseOf M_codeFrom M_codeHalf M_codeTo M_stack M_facts M_newStamps M_roundFrom M_roundAt M_roundTimes M_usesNow M_wasAt M_fewestFor M_getsOf : List (Option Nat)} {M_place0 M_length0 M_fault M_number0 M_open M_codeMany M_waiting M_saidMany M_clauses M_newMany M_rounds M_stampFrom M_stampTimes M_lines M_spot0 M_pullAcross M_pullAlong M_stepsNow M_fallenNow M_isKept : Int32} {M_mintAt M_mintOf M_wholeOf M_isWall M_tape M_someOf : Nat → Int32}  {W : Nat → Bool} {o fm fw fx fy : Nat → Nat} {n p to d w t c T : Nat} (hn1 : 1 ≤ n) (hn : n ≤ 9) (hp : p ≤ 383) (hto : to ≤ 383) (hd : d ≤ 60) (hw : w ≤ 1) (ht : t ≤ 260) (hnt : n ≤ t) (hc : c ≤ 48) (hm : ∀ s, s < c → fm s < 8 ∧ fw s ≤ 2 ∧ M_mintOf s = nI (fm s) ∧ M_wholeOf s = nI (fw s)) (hx : ∀ m, m < 8 → (T.testBit m = true ∧ fx m ≤ 23 ∧ fy m ≤ 15 ∧ M_mintAt m = nI (24 * fy m + fx m)) ∨ (T.testBit m = false ∧ M_mintAt m = -1)) (hS : ∀ i, i < 9 → 0 ≤ (M_someOf i).toInt ∧ (M_someOf i).toInt ≤ 47) (hW : ∀ i, i ≤ 383 → (M_isWall i = 0 ↔ W i = false)) (hb : ∀ i, i < n → o i ≤ 255 ∧ f_and (M_tape i) 255 = nI (o i)) : MetP l 5 yX12_stamped cX12_stamped 8 (some .int) 0 0 [.inr (some (.inl 0)), .inl (nI n), .inl (nI p), .inl (nI to), .inl (nI d), .inl (nI w)] [.inr (11, [.inr (some (.inr M_now)), .inr (some (.inr M_aside)), .inr (some (.inr M_kept)), .inr (some (.inl 1)), .inr (some (.inl 2)), .inr (some (.inl 3)), .inr (some (.inl 4)), .inr (some (.inr M_wasWall)), .inl ((nI c)), .inr (some (.inl 5)), .inl ((nI t)), .inl M_place0, .inl M_length0, .inl M_fault, .inl M_number0, .inl M_open, .inl M_codeMany, .inl M_waiting, .inl M_saidMany, .inl M_clauses, .inr (some (.inr M_said)), .inr (some (.inr M_waitsAt)), .inr (some (.inr M_saidLetter)), .inr (some (.inr M_saidFrom)), .inr (some (.inr M_saidHalf)), .inr (some (.inr M_saidTo)), .inr (some (.inr M_codes)), .inr (some (.inr M_clauseOf)), .inr (some (.inr M_codeFrom)), .inr (some (.inr M_codeHalf)), .inr (some (.inr M_codeTo)), .inr (some (.inr M_stack)), .inr (some (.inr M_facts)), .inr (some (.inr M_newStamps)), .inr (some (.inr M_roundFrom)), .inr (some (.inr M_roundAt)), .inr (some (.inr M_roundTimes)), .inl M_newMany, .inl M_rounds, .inl M_stampFrom, .inl M_stampTimes, .inl M_lines, .inl M_spot0, .inl M_pullAcross, .inl M_pullAlong, .inl M_stepsNow, .inl M_fallenNow, .inr (some (.inr M_usesNow)), .inr (some (.inr M_wasAt)), .inr (some (.inl 6)), .inr (some (.inr M_fewestFor)), .inr (some (.inr M_getsOf)), .inl M_isKept]), .inl (0, 8, M_mintAt), .inl (0, 48, M_mintOf), .inl (0, 48, M_wholeOf), .inl (2, 384, M_isWall), .inl (1, 260, M_tape), .inl (0, 9, M_someOf)] (fun r h' => ∃ so : Nat → Int32, (∀ i, i < 9 → 0 ≤ (so i).toInt ∧ (so i).toInt ≤ 47) ∧ r = some (.inl (stV c T fm fw fx fy o W n p to d w)) ∧ h' = [.inr (11, [.inr (some (.inr M_now)), .inr (some (.inr M_aside)), .inr (some (.inr M_kept)), .inr (some (.inl 1)), .inr (some (.inl 2)), .inr (some (.inl 3)), .inr (some (.inl 4)), .inr (some (.inr M_wasWall)), .inl ((nI c)), .inr (some (.inl 5)), .inl 0, .inl M_place0, .inl M_length0, .inl M_fault, .inl M_number0, .inl M_open, .inl M_codeMany, .inl M_waiting, .inl M_saidMany, .inl M_clauses, .inr (some (.inr M_said)), .inr (some (.inr M_waitsAt)), .inr (some (.inr M_saidLetter)), .inr (some (.inr M_saidFrom)), .inr (some (.inr M_saidHalf)), .inr (some (.inr M_saidTo)), .inr (some (.inr M_codes)), .inr (some (.inr M_clauseOf)), .inr (some (.inr M_codeFrom)), .inr (some (.inr M_codeHalf)), .inr (some (.inr M_codeTo)), .inr (some (.inr M_stack)), .inr (some (.inr M_facts)), .inr (some (.inr M_newStamps)), .inr (some (.inr M_roundFrom)), .inr (some (.inr M_roundAt)), .inr (some (.inr M_roundTimes)), .inl M_newMany, .inl M_rounds, .inl M_stampFrom, .inl M_stampTimes, .inl M_lines, .inl M_spot0, .inl M_pullAcross, .inl M_pullAlong, .inl M_stepsNow, .inl M_fallenNow, .inr (some (.inr M_usesNow)), .inr (some (.inr M_wasAt)), .inr (some (.inl 6)), .inr (some (.inr M_fewestFor)), .inr (some (.inr M_getsOf)), .inl M_isKept]), .inl (0, 8, M_mintAt), .inl (0, 48, M_mintOf), .inl (0, 48, M_wholeOf), .inl (2, 384, M_isWall), .inl (1, 260, M_tape), .inl (0, 9, so)]) := by
  have pw := pw_le n (by omega)
  obtain ⟨P, eP⟩ : ∃ P, P = brB (fun i => fw (o i)) (fun i => fx (fm (o i))) (fun i => fy (fm (o i))) W n d p to := ⟨_, rfl⟩
  have fin : alW c T fm o n = true → stV c T fm fw fx fy o W n p to d w = szV (bsG P (2 ^ n)) w := fun hy => by
    rw [stV_t hy, eP]
  refine m_X12_stamped (fun μ L st h => ∃ (j : Nat) (so : Nat → Int32), μ = 2 ^ n - j ∧ j ≤ 2 ^ n ∧ alW c T fm o n = true ∧ (∀ i, i < 9 → 0 ≤ (so i).toInt ∧ (so i).toInt ≤ 47) ∧ (∀ i, i < n → so i = nI (o i)) ∧ L = [some (.inr (some (.inl 0))), some (.inl (nI n)), some (.inl (nI p)), some (.inl (nI to)), some (.inl (nI d)), some (.inl (nI w)), some (.inl (fwV (bsG P j))), some (.inl (nI j))] ∧ st = [] ∧ h = [.inr (11, [.inr (some (.inr M_now)), .inr (some (.inr M_aside)), .inr (some (.inr M_kept)), .inr (some (.inl 1)), .inr (some (.inl 2)), .inr (some (.inl 3)), .inr (some (.inl 4)), .inr (some (.inr M_wasWall)), .inl ((nI c)), .inr (some (.inl 5)), .inl 0, .inl M_place0, .inl M_length0, .inl M_fault, .inl M_number0, .inl M_open, .inl M_codeMany, .inl M_waiting, .inl M_saidMany, .inl M_clauses, .inr (some (.inr M_said)), .inr (some (.inr M_waitsAt)), .inr (some (.inr M_saidLetter)), .inr (some (.inr M_saidFrom)), .inr (some (.inr M_saidHalf)), .inr (some (.inr M_saidTo)), .inr (some (.inr M_codes)), .inr (some (.inr M_clauseOf)), .inr (some (.inr M_codeFrom)), .inr (some (.inr M_codeHalf)), .inr (some (.inr M_codeTo)), .inr (some (.inr M_stack)), .inr (some (.inr M_facts)), .inr (some (.inr M_newStamps)), .inr (some (.inr M_roundFrom)), .inr (some (.inr M_roundAt)), .inr (some (.inr M_roundTimes)), .inl M_newMany, .inl M_rounds, .inl M_stampFrom, .inl M_stampTimes, .inl M_lines, .inl M_spot0, .inl M_pullAcross, .inl M_pullAlong, .inl M_stepsNow, .inl M_fallenNow, .inr (some (.inr M_usesNow)), .inr (some (.inr M_wasAt)), .inr (some (.inl 6)), .inr (some (.inr M_fewestFor)), .inr (some (.inr M_getsOf)), .inl M_isKept]), .inl (0, 8, M_mintAt), .inl (0, 48, M_mintOf), .inl (0, 48, M_wholeOf), .inl (2, 384, M_isWall), .inl (1, 260, M_tape), .inl (0, 9, so)]) (Nat.le_of_ble_eq_true rfl) ?_ ?_
  · refine call0 (c_in) rfl rfl ?_
    rintro r h' ⟨rfl, rfl⟩
    refine br_b (fun z => absurd ((nI_bt (a := 1) (b := 9) (by omega) (by omega) (by omega)).mpr ⟨hn1, hn⟩) z) (fun _ => ?_)
    refine call0 (c_misPlace) rfl rfl ?_
    rintro r h' ⟨rfl, rfl⟩
    refine br_b (fun z => absurd ((nI_bt (a := 0) (b := 383) (by omega) (by omega) (by omega)).mpr ⟨by omega, hp⟩) z) (fun _ => ?_)
    refine call0 (c_misPlace) rfl rfl ?_
    rintro r h' ⟨rfl, rfl⟩
    refine br_b (fun z => absurd ((nI_bt (a := 0) (b := 383) (by omega) (by omega) (by omega)).mpr ⟨by omega, hto⟩) z) (fun _ => ?_)
    refine call0 (c_in) rfl rfl ?_
    rintro r h' ⟨rfl, rfl⟩
    refine br_b (fun z => absurd ((nI_bt (a := 0) (b := 60) (by omega) (by omega) (by omega)).mpr ⟨by omega, hd⟩) z) (fun _ => ?_)
    refine call0 (c_in) rfl rfl ?_
    rintro r h' ⟨rfl, rfl⟩
    refine br_b (fun z => absurd ((nI_bt (a := 0) (b := 1) (by omega) (by omega) (by omega)).mpr ⟨by omega, hw⟩) z) (fun _ => ?_)
    refine And.intro (fun _ => ?_) (fun z => absurd ((nI_leI (by omega) (by omega)).mpr hnt) z)
    refine call0 (e_X12_takesStamps (o := o) (fm := fm) (n := n) (c := c) (T := T) hn hc (fun s hs => ⟨(hm s hs).1, (hm s hs).2.2.1⟩) (fun m hm' => (hx m hm').imp (fun z => ⟨z.1, _, by omega, z.2.2.2⟩) (fun z => z)) hS hb) rfl rfl ?_
    rintro r h' ⟨so, hso, hq, rfl⟩
    rcases hq with ⟨rfl, hf⟩ | ⟨rfl, hy, hmb⟩
    · refine And.intro (fun _ => ?_) (fun z => absurd rfl z)
      exact ⟨so, hso, by rw [stV_f hf], rfl⟩
    · refine And.intro (fun z => absurd z (by show ¬ ((_ : Int32) = _); decide)) (fun _ => ?_)
      exact ⟨_, 0, so, rfl, by omega, hy, hso, hmb, rfl, rfl, rfl⟩
  · rintro μ L st h ⟨j, so, hμ, h1, hy, hso, hmb, rfl, rfl, rfl⟩
    refine And.intro (fun (q1 : f_shl 1 (nI n) ≤ nI j) => ?_) (fun (q1 : ¬ f_shl 1 (nI n) ≤ nI j) => ?_) <;> rw [pw_n n (by omega)] at q1
    · have q1 := (nI_leI (by omega) (by omega)).mp q1
      obtain rfl : j = 2 ^ n := by omega
      rcases (by omega : w = 0 ∨ w = 1) with rfl | rfl
      · refine And.intro (fun z => absurd z (by show ¬ ((_ : Int32) = _); decide)) (fun _ => ?_)
        cases eb : bsG P (2 ^ n) with
        | none =>
          refine And.intro (fun _ => ?_) (fun z => absurd rfl z)
          exact ⟨so, hso, by rw [fin hy, eb]; rfl, rfl⟩
        | some x =>
          have xl := bsG_lt eb
          refine And.intro (fun z => absurd z (n2_n (by omega))) (fun _ => ?_)
          refine call0 (e_X12_bits (S := x)) rfl rfl ?_
          rintro r h' ⟨rfl, rfl⟩
          exact ⟨so, hso, by rw [fin hy, eb]; rfl, rfl⟩
      · refine And.intro (fun _ => ?_) (fun z => absurd rfl z)
        exact ⟨so, hso, by rw [fin hy]; cases bsG P (2 ^ n) <;> rfl, rfl⟩
    · have q1 : j < 2 ^ n := Nat.lt_of_not_le fun z => q1 ((nI_leI (by omega) (by omega)).mpr z)
      have hM := crR_of hc hy hmb hm hx
      have hcb : crB (fun i => fw (o i)) (fun i => fx (fm (o i))) (fun i => fy (fm (o i))) n := fun i hi => by
        obtain ⟨_, _, m, _, _, _, _, a, b, c⟩ := hM i hi
        exact ⟨c, a, b⟩
      have no : fwV (bsG P (j + 1)) = fwV (bsG P j) → ∃ μ', μ' < μ ∧ ∃ (j' : Nat) (so' : Nat → Int32), μ' = 2 ^ n - j' ∧ j' ≤ 2 ^ n ∧ alW c T fm o n = true ∧ (∀ i, i < 9 → 0 ≤ (so' i).toInt ∧ (so' i).toInt ≤ 47) ∧ (∀ i, i < n → so' i = nI (o i)) ∧ ([some (.inr (some (.inl 0))), some (.inl (nI n)), some (.inl (nI p)), some (.inl (nI to)), some (.inl (nI d)), some (.inl (nI w)), some (.inl (fwV (bsG P j))), some (.inl (f_add (nI j) 1))] : PL) = [some (.inr (some (.inl 0))), some (.inl (nI n)), some (.inl (nI p)), some (.inl (nI to)), some (.inl (nI d)), some (.inl (nI w)), some (.inl (fwV (bsG P j'))), some (.inl (nI j'))] ∧ ([] : List PV) = [] ∧ ([.inr (11, [.inr (some (.inr M_now)), .inr (some (.inr M_aside)), .inr (some (.inr M_kept)), .inr (some (.inl 1)), .inr (some (.inl 2)), .inr (some (.inl 3)), .inr (some (.inl 4)), .inr (some (.inr M_wasWall)), .inl ((nI c)), .inr (some (.inl 5)), .inl 0, .inl M_place0, .inl M_length0, .inl M_fault, .inl M_number0, .inl M_open, .inl M_codeMany, .inl M_waiting, .inl M_saidMany, .inl M_clauses, .inr (some (.inr M_said)), .inr (some (.inr M_waitsAt)), .inr (some (.inr M_saidLetter)), .inr (some (.inr M_saidFrom)), .inr (some (.inr M_saidHalf)), .inr (some (.inr M_saidTo)), .inr (some (.inr M_codes)), .inr (some (.inr M_clauseOf)), .inr (some (.inr M_codeFrom)), .inr (some (.inr M_codeHalf)), .inr (some (.inr M_codeTo)), .inr (some (.inr M_stack)), .inr (some (.inr M_facts)), .inr (some (.inr M_newStamps)), .inr (some (.inr M_roundFrom)), .inr (some (.inr M_roundAt)), .inr (some (.inr M_roundTimes)), .inl M_newMany, .inl M_rounds, .inl M_stampFrom, .inl M_stampTimes, .inl M_lines, .inl M_spot0, .inl M_pullAcross, .inl M_pullAlong, .inl M_stepsNow, .inl M_fallenNow, .inr (some (.inr M_usesNow)), .inr (some (.inr M_wasAt)), .inr (some (.inl 6)), .inr (some (.inr M_fewestFor)), .inr (some (.inr M_getsOf)), .inl M_isKept]), .inl (0, 8, M_mintAt), .inl (0, 48, M_mintOf), .inl (0, 48, M_wholeOf), .inl (2, 384, M_isWall), .inl (1, 260, M_tape), .inl (0, 9, so)] : PH) = [.inr (11, [.inr (some (.inr M_now)), .inr (some (.inr M_aside)), .inr (some (.inr M_kept)), .inr (some (.inl 1)), .inr (some (.inl 2)), .inr (some (.inl 3)), .inr (some (.inl 4)), .inr (some (.inr M_wasWall)), .inl ((nI c)), .inr (some (.inl 5)), .inl 0, .inl M_place0, .inl M_length0, .inl M_fault, .inl M_number0, .inl M_open, .inl M_codeMany, .inl M_waiting, .inl M_saidMany, .inl M_clauses, .inr (some (.inr M_said)), .inr (some (.inr M_waitsAt)), .inr (some (.inr M_saidLetter)), .inr (some (.inr M_saidFrom)), .inr (some (.inr M_saidHalf)), .inr (some (.inr M_saidTo)), .inr (some (.inr M_codes)), .inr (some (.inr M_clauseOf)), .inr (some (.inr M_codeFrom)), .inr (some (.inr M_codeHalf)), .inr (some (.inr M_codeTo)), .inr (some (.inr M_stack)), .inr (some (.inr M_facts)), .inr (some (.inr M_newStamps)), .inr (some (.inr M_roundFrom)), .inr (some (.inr M_roundAt)), .inr (some (.inr M_roundTimes)), .inl M_newMany, .inl M_rounds, .inl M_stampFrom, .inl M_stampTimes, .inl M_lines, .inl M_spot0, .inl M_pullAcross, .inl M_pullAlong, .inl M_stepsNow, .inl M_fallenNow, .inr (some (.inr M_usesNow)), .inr (some (.inr M_wasAt)), .inr (some (.inl 6)), .inr (some (.inr M_fewestFor)), .inr (some (.inr M_getsOf)), .inl M_isKept]), .inl (0, 8, M_mintAt), .inl (0, 48, M_mintOf), .inl (0, 48, M_wholeOf), .inl (2, 384, M_isWall), .inl (1, 260, M_tape), .inl (0, 9, so')] := fun e => ⟨2 ^ n - (j + 1), by omega, j + 1, so, rfl, by omega, hy, hso, hmb, by rw [e, ← nI_1 j] <;> rfl, rfl, rfl⟩
      have nP : ¬ P j = true → fwV (bsG P (j + 1)) = fwV (bsG P j) := fun z => congrArg fwV (if_neg z)
      have hP : P j = decide (goP (fun i => fw (o i)) (fun i => fx (fm (o i))) (fun i => fy (fm (o i))) j.testBit W n d p = some to) := by rw [eP]; rfl
      refine call0 (e_X12_isLess (b := bsG P j) (j := j) (fun x hx => by have := bsG_lt hx; omega)) rfl rfl ?_
      rintro r h' ⟨rfl, rfl⟩
      refine br_b (fun w' => ?_) (fun w' => ?_)
      · refine no ?_
        by_cases pj : P j = true
        · have e2 : bsG P (j + 1) = some (fewS (bsG P j) j) := if_pos pj
          rw [e2, fw_f w']
        · exact nP pj
      · refine call0 (x_X12_brings (B := j.testBit) (W := W) (n := n) (p := p) (to := to) (d := d) hn hp hto hd hcb (fun i hi => hasB_n (by omega)) hM hW) rfl rfl ?_
        rintro r h' ⟨rfl, rfl⟩
        refine br_b (fun v => ?_) (fun v => ?_)
        · exact no (nP (by rw [hP]; exact fun z => v (of_decide_eq_true z)))
        · have e2 : bsG P (j + 1) = some (fewS (bsG P j) j) := if_pos (by rw [hP]; exact decide_eq_true v)
          exact ⟨2 ^ n - (j + 1), by omega, j + 1, so, rfl, by omega, hy, hso, hmb, by rw [e2, fw_t w', ← nI_1 j] <;> rfl, rfl, rfl⟩

