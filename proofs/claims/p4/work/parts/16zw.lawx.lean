/-! ===== the class's reader of a law ===== -/
set_option maxRecDepth 100000 in
theorem c_X6_skip_L {l : Launch} {zi : List (Option Nat)} {TX : Nat → Int32} {K ah fa : Int32} {b : Nat → Nat} {n q : Nat} (hn : n ≤ 240) (hq : q ≤ n) (eK : f_add K 1 = nI q) (hb : txB TX b n) : MetP l 0 yX6_skip cX6_skip 1 none 0 0 [.inr (some (.inl 0))] [.inr (3, [.inr (some (.inl 1)), .inl (nI n), .inl K, .inl ah, .inl fa, .inr (some (.inr zi))]), .inl (0, 260, TX)] (fun r h' => r = none ∧ h' = [.inr (3, [.inr (some (.inl 1)), .inl (nI n), .inl (nI q), .inl (aV b n q), .inl fa, .inr (some (.inr zi))]), .inl (0, 260, TX)]) := by
  refine m_X6_skip (Nat.le_of_ble_eq_true rfl) ?_
  refine And.intro (fun (w : f_add K 1 < 0) => ?_) (fun _ => ?_)
  · rw [eK] at w
    exact absurd ((nI_ltI (b := 0) (by omega) (by omega)).mp w) (by omega)
  · refine And.intro (fun (w : nI n ≤ f_add K 1) => ?_) (fun (w : ¬ nI n ≤ f_add K 1) => ?_)
    · rw [eK] at w
      have w := (nI_leI (by omega) (by omega)).mp w
      have ea : aV b n q = -1 := if_neg (by omega)
      exact ⟨rfl, by rw [ea, ← eK] <;> rfl⟩
    · rw [eK] at w
      have w : q < n := Nat.lt_of_not_le fun z => w ((nI_leI (by omega) (by omega)).mpr z)
      refine And.intro (fun (v : nI 260 ≤ f_add K 1) => ?_) (fun _ => ?_)
      · rw [eK] at v
        exact absurd ((nI_leI (by omega) (by omega)).mp v) (by omega)
      · refine And.intro (show vp_in (f_add K 1) 260 from by rw [eK]; exact vp_in_nI (by omega) (by omega)) ?_
        have ea : aV b n q = TX (f_add K 1).toNatClampNeg := by
          rw [eK, nI_clamp (by omega), (hb q w).2]
          exact if_pos w
        exact ⟨rfl, by rw [ea, ← eK] <;> rfl⟩
set_option maxRecDepth 100000 in
theorem c_X6_at_L {l : Launch} {zi : List (Option Nat)} {TX : Nat → Int32} {en at_ ah fa : Int32} : MetP l 0 yX6_at cX6_at 1 (some .int) 0 0 [.inr (some (.inl 0))] [.inr (3, [.inr (some (.inl 1)), .inl en, .inl at_, .inl ah, .inl fa, .inr (some (.inr zi))]), .inl (0, 260, TX)] (fun r h' => r = some (.inl at_) ∧ h' = [.inr (3, [.inr (some (.inl 1)), .inl en, .inl at_, .inl ah, .inl fa, .inr (some (.inr zi))]), .inl (0, 260, TX)]) := by
  refine m_X6_at (Nat.le_of_ble_eq_true rfl) ?_
  exact ⟨rfl, rfl⟩
set_option maxRecDepth 100000 in
theorem c_X6_ahead_L {l : Launch} {zi : List (Option Nat)} {TX : Nat → Int32} {en at_ ah fa : Int32} : MetP l 0 yX6_ahead cX6_ahead 1 (some .int) 0 0 [.inr (some (.inl 0))] [.inr (3, [.inr (some (.inl 1)), .inl en, .inl at_, .inl ah, .inl fa, .inr (some (.inr zi))]), .inl (0, 260, TX)] (fun r h' => r = some (.inl ah) ∧ h' = [.inr (3, [.inr (some (.inl 1)), .inl en, .inl at_, .inl ah, .inl fa, .inr (some (.inr zi))]), .inl (0, 260, TX)]) := by
  refine m_X6_ahead (Nat.le_of_ble_eq_true rfl) ?_
  exact ⟨rfl, rfl⟩
set_option maxRecDepth 100000 in
theorem c_X6_fault_L {l : Launch} {zi : List (Option Nat)} {TX : Nat → Int32} {en at_ ah fa : Int32} : MetP l 0 yX6_fault cX6_fault 1 (some .int) 0 0 [.inr (some (.inl 0))] [.inr (3, [.inr (some (.inl 1)), .inl en, .inl at_, .inl ah, .inl fa, .inr (some (.inr zi))]), .inl (0, 260, TX)] (fun r h' => r = some (.inl fa) ∧ h' = [.inr (3, [.inr (some (.inl 1)), .inl en, .inl at_, .inl ah, .inl fa, .inr (some (.inr zi))]), .inl (0, 260, TX)]) := by
  refine m_X6_fault (Nat.le_of_ble_eq_true rfl) ?_
  exact ⟨rfl, rfl⟩
set_option maxRecDepth 100000 in
theorem c_X6_fails_L {l : Launch} {zi : List (Option Nat)} {TX : Nat → Int32} {en at_ ah fa x y : Int32} : MetP l 0 yX6_fails cX6_fails 3 (some .boolean) 0 0 [.inr (some (.inl 0)), .inl x, .inl y] [.inr (3, [.inr (some (.inl 1)), .inl en, .inl at_, .inl ah, .inl fa, .inr (some (.inr zi))]), .inl (0, 260, TX)] (fun r h' => r = some (.inl 0) ∧ h' = [.inr (3, [.inr (some (.inl 1)), .inl en, .inl at_, .inl ah, .inl (f_sub (f_mul (-1000) x) y), .inr (some (.inr zi))]), .inl (0, 260, TX)]) := by
  refine m_X6_fails (Nat.le_of_ble_eq_true rfl) ?_
  exact And.intro (Or.inl rfl) ⟨rfl, rfl⟩
set_option maxRecDepth 100000 in
theorem c_X6_ended_L {l : Launch} {zi : List (Option Nat)} {TX : Nat → Int32} {ah fa : Int32} {n p : Nat} (hn : n ≤ 240) (hp : p ≤ 240) : MetP l 0 yX6_ended cX6_ended 1 (some .boolean) 0 0 [.inr (some (.inl 0))] [.inr (3, [.inr (some (.inl 1)), .inl (nI n), .inl (nI p), .inl ah, .inl fa, .inr (some (.inr zi))]), .inl (0, 260, TX)] (fun r h' => r = some (.inl (bI (n ≤ p))) ∧ h' = [.inr (3, [.inr (some (.inl 1)), .inl (nI n), .inl (nI p), .inl ah, .inl fa, .inr (some (.inr zi))]), .inl (0, 260, TX)]) := by
  refine m_X6_ended (Nat.le_of_ble_eq_true rfl) ?_
  refine And.intro (fun w => ?_) (fun w => ?_)
  · have w := (nI_ltI (by omega) (by omega)).mp w
    exact And.intro (Or.inl rfl) (by rw [bI_f (by omega)]; exact ⟨rfl, rfl⟩)
  · have w : ¬ p < n := fun z => w ((nI_ltI (by omega) (by omega)).mpr z)
    exact And.intro (Or.inr rfl) (by rw [bI_t (by omega)]; exact ⟨rfl, rfl⟩)
set_option maxRecDepth 100000 in
theorem c_X6_begin_L {l : Launch} {zi : List (Option Nat)} {TX : Nat → Int32} {en at_ ah fa : Int32} {b : Nat → Nat} {n : Nat} (hn : n ≤ 240) (hb : txB TX b n) : MetP l 1 yX6_begin cX6_begin 2 none 0 0 [.inr (some (.inl 0)), .inl (nI n)] [.inr (3, [.inr (some (.inl 1)), .inl en, .inl at_, .inl ah, .inl fa, .inr (some (.inr zi))]), .inl (0, 260, TX)] (fun r h' => r = none ∧ h' = [.inr (3, [.inr (some (.inl 1)), .inl (nI n), .inl (nI 0), .inl (aV b n 0), .inl 0, .inr (some (.inr zi))]), .inl (0, 260, TX)]) := by
  refine m_X6_begin (Nat.le_of_ble_eq_true rfl) ?_
  refine call0 (c_X6_skip_L (n := n) (q := 0) (b := b) hn (by omega) (by decide) hb) rfl rfl ?_
  rintro r h' ⟨rfl, rfl⟩
  exact ⟨rfl, rfl⟩
set_option maxRecDepth 100000 in
theorem c_X6_reads_L {l : Launch} {zi : List (Option Nat)} {TX : Nat → Int32} {fa : Int32} {b : Nat → Nat} {n p k : Nat} (hn : n ≤ 240) (hp : p ≤ n) (hk : k ≤ 255) (hb : txB TX b n) : MetP l 1 yX6_reads cX6_reads 2 (some .boolean) 0 0 [.inr (some (.inl 0)), .inl (nI k)] [.inr (3, [.inr (some (.inl 1)), .inl (nI n), .inl (nI p), .inl (aV b n p), .inl fa, .inr (some (.inr zi))]), .inl (0, 260, TX)] (fun r h' => (hr b n p = k ∧ r = some (.inl 1) ∧ h' = [.inr (3, [.inr (some (.inl 1)), .inl (nI n), .inl (nI (p + 1)), .inl (aV b n (p + 1)), .inl fa, .inr (some (.inr zi))]), .inl (0, 260, TX)]) ∨ (¬ hr b n p = k ∧ r = some (.inl 0) ∧ h' = [.inr (3, [.inr (some (.inl 1)), .inl (nI n), .inl (nI p), .inl (aV b n p), .inl (ftV 1 p), .inr (some (.inr zi))]), .inl (0, 260, TX)])) := by
  have hb' : ∀ i, i < n → b i ≤ 255 := fun i hi => (hb i hi).1
  refine m_X6_reads (Nat.le_of_ble_eq_true rfl) ?_
  refine And.intro (fun (w : aV b n p = nI k) => ?_) (fun (w : ¬ aV b n p = nI k) => ?_)
  · have w := (aV_eq hb' hk).mp w
    have pn := hr_lt w hk
    refine call0 (c_X6_skip_L (n := n) (q := p + 1) (b := b) hn (by omega) (nI_1 p) hb) rfl rfl ?_
    rintro r h' ⟨rfl, rfl⟩
    exact And.intro (Or.inr rfl) (Or.inl ⟨w, rfl, rfl⟩)
  · have w : ¬ hr b n p = k := fun z => w ((aV_eq hb' hk).mpr z)
    refine call0 (c_X6_fails_L) rfl rfl ?_
    rintro r h' ⟨rfl, rfl⟩
    exact And.intro (Or.inl rfl) (Or.inr ⟨w, rfl, rfl⟩)
theorem dgE_s {b : Nat → Nat} {n f q : Nat} (h : dg b n q = true) : dgE b n (f + 1) q = dgE b n f (q + 1) := if_pos h
theorem dgE_n {b : Nat → Nat} {n f q : Nat} (h : ¬ dg b n q = true) : dgE b n f q = .inr q := by
  cases f with
  | zero => exact if_neg h
  | succ f => exact if_neg h
set_option maxRecDepth 100000 in
theorem c_X6_readNumber_L {l : Launch} {zi : List (Option Nat)} {TX : Nat → Int32} {fa : Int32} {b : Nat → Nat} {n p : Nat} (hn : n ≤ 240) (hp : p ≤ n) (hb : txB TX b n) : MetP l 1 yX6_readNumber cX6_readNumber 7 (some .int) 0 0 [.inr (some (.inl 0)), .inl 5, .inl 99999, .inl 2] [.inr (3, [.inr (some (.inl 1)), .inl (nI n), .inl (nI p), .inl (aV b n p), .inl fa, .inr (some (.inr zi))]), .inl (0, 260, TX)] (fun r h' => (∃ v q : Nat, dg b n p = true ∧ dgE b n 5 p = .inr q ∧ v ≤ 99999 ∧ r = some (.inl (nI v)) ∧ h' = [.inr (3, [.inr (some (.inl 1)), .inl (nI n), .inl (nI q), .inl (aV b n q), .inl fa, .inr (some (.inr zi))]), .inl (0, 260, TX)]) ∨ (∃ q : Nat, dg b n p = true ∧ dgE b n 5 p = .inl (2, q) ∧ q ≤ n ∧ r = some (.inl (-1)) ∧ h' = [.inr (3, [.inr (some (.inl 1)), .inl (nI n), .inl (nI q), .inl (aV b n q), .inl (ftV 2 q), .inr (some (.inr zi))]), .inl (0, 260, TX)]) ∨ (¬ dg b n p = true ∧ r = some (.inl (-1)) ∧ h' = [.inr (3, [.inr (some (.inl 1)), .inl (nI n), .inl (nI p), .inl (aV b n p), .inl (ftV 1 p), .inr (some (.inr zi))]), .inl (0, 260, TX)])) := by
  have hb' : ∀ i, i < n → b i ≤ 255 := fun i hi => (hb i hi).1
  have e57 : ∀ {i v : Nat} {C12 : Blk}, p + i ≤ n → i ≤ 5 → v < 10 ^ i → (i = 0 → ¬ dg b n p = true) → (0 < i → dg b n p = true) → dgE b n 5 p = dgE b n (5 - i) (p + i) → (i < 5 → ¬ dg b n (p + i) = true) → b_X6_readNumber_57 l C12 (fun r h' => (∃ v q : Nat, dg b n p = true ∧ dgE b n 5 p = .inr q ∧ v ≤ 99999 ∧ r = some (.inl (nI v)) ∧ h' = [.inr (3, [.inr (some (.inl 1)), .inl (nI n), .inl (nI q), .inl (aV b n q), .inl fa, .inr (some (.inr zi))]), .inl (0, 260, TX)]) ∨ (∃ q : Nat, dg b n p = true ∧ dgE b n 5 p = .inl (2, q) ∧ q ≤ n ∧ r = some (.inl (-1)) ∧ h' = [.inr (3, [.inr (some (.inl 1)), .inl (nI n), .inl (nI q), .inl (aV b n q), .inl (ftV 2 q), .inr (some (.inr zi))]), .inl (0, 260, TX)]) ∨ (¬ dg b n p = true ∧ r = some (.inl (-1)) ∧ h' = [.inr (3, [.inr (some (.inl 1)), .inl (nI n), .inl (nI p), .inl (aV b n p), .inl (ftV 1 p), .inr (some (.inr zi))]), .inl (0, 260, TX)])) [some (.inr (some (.inl 0))), some (.inl 5), some (.inl 99999), some (.inl 2), some (.inl (nI p)), some (.inl (nI v)), some (.inl (nI i))] [] [.inr (3, [.inr (some (.inl 1)), .inl (nI n), .inl (nI (p + i)), .inl (aV b n (p + i)), .inl fa, .inr (some (.inr zi))]), .inl (0, 260, TX)] := fun {i v C12} hq hi hv h0 h1 he hd => by
    refine And.intro (fun (w : nI (p + i) = nI p) => ?_) (fun (w : ¬ nI (p + i) = nI p) => ?_)
    · have w := (nI_eq (by omega) (by omega)).mp w
      obtain rfl : i = 0 := by omega
      refine call0 (c_X6_fails_L) rfl rfl ?_
      rintro r h' ⟨rfl, rfl⟩
      exact Or.inr (Or.inr ⟨h0 rfl, rfl, rfl⟩)
    · have i0 : 0 < i := Nat.pos_of_ne_zero (fun z => w (by rw [z]; rfl))
      have d0 := h1 i0
      refine call0 (c_within) rfl rfl ?_
      rintro r h' ⟨rfl, rfl⟩
      refine br_b (fun z => ?_) (fun z => ?_)
      · have z : ¬ dg b n (p + i) = true := fun y => z ((aV_dg hb').mpr y)
        have v9 : v ≤ 99999 := by
          have : 10 ^ i ≤ 10 ^ 5 := Nat.pow_le_pow_right (by omega) hi
          have e : 10 ^ 5 = 100000 := by decide
          omega
        refine And.intro (fun _ => ?_) (fun y => absurd ((nI_leI (b := 99999) (by omega) (by omega)).mpr v9) y)
        exact Or.inl ⟨v, p + i, d0, he.trans (dgE_n z), v9, rfl, rfl⟩
      · have z := (aV_dg hb').mp z
        obtain rfl : i = 5 := by
          rcases Nat.lt_or_ge i 5 with y | y
          · exact absurd z (hd y)
          · omega
        refine call0 (c_X6_fails_L) rfl rfl ?_
        rintro r h' ⟨rfl, rfl⟩
        exact Or.inr (Or.inl ⟨p + 5, d0, he.trans (if_pos z), hq, rfl, rfl⟩)
  refine m_X6_readNumber (fun μ L st h => ∃ (i v : Nat), μ = 5 - i ∧ i ≤ 5 ∧ p + i ≤ n ∧ v < 10 ^ i ∧ (0 < i → dg b n p = true) ∧ dgE b n 5 p = dgE b n (5 - i) (p + i) ∧ L = [some (.inr (some (.inl 0))), some (.inl 5), some (.inl 99999), some (.inl 2), some (.inl (nI p)), some (.inl (nI v)), some (.inl (nI i))] ∧ st = [] ∧ h = [.inr (3, [.inr (some (.inl 1)), .inl (nI n), .inl (nI (p + i)), .inl (aV b n (p + i)), .inl fa, .inr (some (.inr zi))]), .inl (0, 260, TX)]) (Nat.le_of_ble_eq_true rfl) ?_ ?_
  · exact ⟨_, 0, 0, rfl, by omega, hp, by decide, fun z => absurd z (Nat.lt_irrefl 0), rfl, rfl, rfl, rfl⟩
  · rintro μ L st h ⟨i, v, hμ, h1, h2, h3, h4, h5, rfl, rfl, rfl⟩
    refine And.intro (fun q => ?_) (fun q => ?_)
    · have q := (nI_leI (a := 5) (by omega) (by omega)).mp q
      exact e57 (C12 := Bz) h2 h1 h3 (fun z => by omega) h4 h5 (fun z => by omega)
    · have q : i < 5 := Nat.lt_of_not_le fun z => q ((nI_leI (a := 5) (by omega) (by omega)).mpr z)
      refine call0 (c_within) rfl rfl ?_
      rintro r h' ⟨rfl, rfl⟩
      refine br_b (fun w => ?_) (fun w => ?_)
      · have w : ¬ dg b n (p + i) = true := fun z => w ((aV_dg hb').mpr z)
        refine e57 (C12 := Bz) h2 h1 h3 (fun z => ?_) h4 h5 (fun _ => w)
        subst z
        exact w
      · have w := (aV_dg hb').mp w
        have pl := dg_lt w
        have g0 := dg_t.mp w
        refine call0 (c_X6_skip_L (n := n) (q := p + i + 1) (b := b) hn (by omega) (nI_1 (p + i)) hb) rfl rfl ?_
        rintro r h' ⟨rfl, rfl⟩
        refine ⟨5 - (i + 1), by omega, i + 1, 10 * v + (hr b n (p + i) - 48), rfl, by omega, by omega, pow_step h3 (by omega), fun _ => ?_, ?_, by rw [← dig_k w, ← nI_1 i] <;> rfl, rfl, rfl⟩
        · cases i with
          | zero => exact w
          | succ i => exact h4 (by omega)
        · rw [h5, show 5 - i = 5 - (i + 1) + 1 by omega, dgE_s w]
          rfl

