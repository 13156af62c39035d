/-! ===== the class reads a sheet ===== -/
abbrev txB (TX : Nat → Int32) (b : Nat → Nat) (n : Nat) : Prop := ∀ i, i < n → b i ≤ 255 ∧ TX i = nI (b i)
set_option maxRecDepth 100000 in
theorem c_X6_skip_S {l : Launch} {zm zg : List (Option Nat)} {TX : Nat → Int32} {K ah fa sz : Int32} {b : Nat → Nat} {n q : Nat} (hn : n ≤ 240) (hq : q ≤ n) (eK : f_add K 1 = nI q) (hb : txB TX b n) : MetP l 0 yX6_skip cX6_skip 1 none 0 0 [.inr (some (.inl 0))] [.inr (8, [.inr (some (.inl 1)), .inl (nI n), .inl K, .inl ah, .inl fa, .inr (some (.inr zm)), .inr (some (.inr zg)), .inl sz]), .inl (0, 260, TX)] (fun r h' => r = none ∧ h' = [.inr (8, [.inr (some (.inl 1)), .inl (nI n), .inl (nI q), .inl (aV b n q), .inl fa, .inr (some (.inr zm)), .inr (some (.inr zg)), .inl sz]), .inl (0, 260, TX)]) := by
  refine m_X6_skip (Nat.le_of_ble_eq_true rfl) ?_
  refine And.intro (fun (w : f_add K 1 < 0) => ?_) (fun _ => ?_)
  · rw [eK] at w
    exact absurd ((nI_ltI (b := 0) (by omega) (by omega)).mp w) (by omega)
  · refine And.intro (fun (w : nI n ≤ f_add K 1) => ?_) (fun (w : ¬ nI n ≤ f_add K 1) => ?_)
    · rw [eK] at w
      have w := (nI_leI (by omega) (by omega)).mp w
      have ea : aV b n q = -1 := if_neg (by omega)
      exact ⟨rfl, by rw [ea, ← eK] <;> rfl⟩
    · rw [eK] at w
      have w : q < n := Nat.lt_of_not_le fun z => w ((nI_leI (by omega) (by omega)).mpr z)
      refine And.intro (fun (v : nI 260 ≤ f_add K 1) => ?_) (fun _ => ?_)
      · rw [eK] at v
        exact absurd ((nI_leI (by omega) (by omega)).mp v) (by omega)
      · refine And.intro (show vp_in (f_add K 1) 260 from by rw [eK]; exact vp_in_nI (by omega) (by omega)) ?_
        have ea : aV b n q = TX (f_add K 1).toNatClampNeg := by
          rw [eK, nI_clamp (by omega), (hb q w).2]
          exact if_pos w
        exact ⟨rfl, by rw [ea, ← eK] <;> rfl⟩
set_option maxRecDepth 100000 in
theorem c_X6_at_S {l : Launch} {zm zg : List (Option Nat)} {TX : Nat → Int32} {en at_ ah fa sz : Int32} : MetP l 0 yX6_at cX6_at 1 (some .int) 0 0 [.inr (some (.inl 0))] [.inr (8, [.inr (some (.inl 1)), .inl en, .inl at_, .inl ah, .inl fa, .inr (some (.inr zm)), .inr (some (.inr zg)), .inl sz]), .inl (0, 260, TX)] (fun r h' => r = some (.inl at_) ∧ h' = [.inr (8, [.inr (some (.inl 1)), .inl en, .inl at_, .inl ah, .inl fa, .inr (some (.inr zm)), .inr (some (.inr zg)), .inl sz]), .inl (0, 260, TX)]) := by
  refine m_X6_at (Nat.le_of_ble_eq_true rfl) ?_
  exact ⟨rfl, rfl⟩
set_option maxRecDepth 100000 in
theorem c_X6_ahead_S {l : Launch} {zm zg : List (Option Nat)} {TX : Nat → Int32} {en at_ ah fa sz : Int32} : MetP l 0 yX6_ahead cX6_ahead 1 (some .int) 0 0 [.inr (some (.inl 0))] [.inr (8, [.inr (some (.inl 1)), .inl en, .inl at_, .inl ah, .inl fa, .inr (some (.inr zm)), .inr (some (.inr zg)), .inl sz]), .inl (0, 260, TX)] (fun r h' => r = some (.inl ah) ∧ h' = [.inr (8, [.inr (some (.inl 1)), .inl en, .inl at_, .inl ah, .inl fa, .inr (some (.inr zm)), .inr (some (.inr zg)), .inl sz]), .inl (0, 260, TX)]) := by
  refine m_X6_ahead (Nat.le_of_ble_eq_true rfl) ?_
  exact ⟨rfl, rfl⟩
set_option maxRecDepth 100000 in
theorem c_X6_fault_S {l : Launch} {zm zg : List (Option Nat)} {TX : Nat → Int32} {en at_ ah fa sz : Int32} : MetP l 0 yX6_fault cX6_fault 1 (some .int) 0 0 [.inr (some (.inl 0))] [.inr (8, [.inr (some (.inl 1)), .inl en, .inl at_, .inl ah, .inl fa, .inr (some (.inr zm)), .inr (some (.inr zg)), .inl sz]), .inl (0, 260, TX)] (fun r h' => r = some (.inl fa) ∧ h' = [.inr (8, [.inr (some (.inl 1)), .inl en, .inl at_, .inl ah, .inl fa, .inr (some (.inr zm)), .inr (some (.inr zg)), .inl sz]), .inl (0, 260, TX)]) := by
  refine m_X6_fault (Nat.le_of_ble_eq_true rfl) ?_
  exact ⟨rfl, rfl⟩
def ftV (k p : Nat) : Int32 := f_sub (f_mul (-1000) (nI k)) (nI p)
set_option maxRecDepth 100000 in
theorem c_X6_fails_S {l : Launch} {zm zg : List (Option Nat)} {TX : Nat → Int32} {en at_ ah fa sz x y : Int32} : MetP l 0 yX6_fails cX6_fails 3 (some .boolean) 0 0 [.inr (some (.inl 0)), .inl x, .inl y] [.inr (8, [.inr (some (.inl 1)), .inl en, .inl at_, .inl ah, .inl fa, .inr (some (.inr zm)), .inr (some (.inr zg)), .inl sz]), .inl (0, 260, TX)] (fun r h' => r = some (.inl 0) ∧ h' = [.inr (8, [.inr (some (.inl 1)), .inl en, .inl at_, .inl ah, .inl (f_sub (f_mul (-1000) x) y), .inr (some (.inr zm)), .inr (some (.inr zg)), .inl sz]), .inl (0, 260, TX)]) := by
  refine m_X6_fails (Nat.le_of_ble_eq_true rfl) ?_
  exact And.intro (Or.inl rfl) ⟨rfl, rfl⟩
set_option maxRecDepth 100000 in
theorem c_X6_ended_S {l : Launch} {zm zg : List (Option Nat)} {TX : Nat → Int32} {ah fa sz : Int32} {n p : Nat} (hn : n ≤ 240) (hp : p ≤ 240) : MetP l 0 yX6_ended cX6_ended 1 (some .boolean) 0 0 [.inr (some (.inl 0))] [.inr (8, [.inr (some (.inl 1)), .inl (nI n), .inl (nI p), .inl ah, .inl fa, .inr (some (.inr zm)), .inr (some (.inr zg)), .inl sz]), .inl (0, 260, TX)] (fun r h' => r = some (.inl (bI (n ≤ p))) ∧ h' = [.inr (8, [.inr (some (.inl 1)), .inl (nI n), .inl (nI p), .inl ah, .inl fa, .inr (some (.inr zm)), .inr (some (.inr zg)), .inl sz]), .inl (0, 260, TX)]) := by
  refine m_X6_ended (Nat.le_of_ble_eq_true rfl) ?_
  refine And.intro (fun w => ?_) (fun w => ?_)
  · have w := (nI_ltI (by omega) (by omega)).mp w
    exact And.intro (Or.inl rfl) (by rw [bI_f (by omega)]; exact ⟨rfl, rfl⟩)
  · have w : ¬ p < n := fun z => w ((nI_ltI (by omega) (by omega)).mpr z)
    exact And.intro (Or.inr rfl) (by rw [bI_t (by omega)]; exact ⟨rfl, rfl⟩)
set_option maxRecDepth 100000 in
theorem c_X6_begin_S {l : Launch} {zm zg : List (Option Nat)} {TX : Nat → Int32} {en at_ ah fa sz : Int32} {b : Nat → Nat} {n : Nat} (hn : n ≤ 240) (hb : txB TX b n) : MetP l 1 yX6_begin cX6_begin 2 none 0 0 [.inr (some (.inl 0)), .inl (nI n)] [.inr (8, [.inr (some (.inl 1)), .inl en, .inl at_, .inl ah, .inl fa, .inr (some (.inr zm)), .inr (some (.inr zg)), .inl sz]), .inl (0, 260, TX)] (fun r h' => r = none ∧ h' = [.inr (8, [.inr (some (.inl 1)), .inl (nI n), .inl (nI 0), .inl (aV b n 0), .inl 0, .inr (some (.inr zm)), .inr (some (.inr zg)), .inl sz]), .inl (0, 260, TX)]) := by
  refine m_X6_begin (Nat.le_of_ble_eq_true rfl) ?_
  refine call0 (c_X6_skip_S (n := n) (q := 0) (b := b) hn (by omega) (by decide) hb) rfl rfl ?_
  rintro r h' ⟨rfl, rfl⟩
  exact ⟨rfl, rfl⟩
/-- the rows hold the first c stamps -/
abbrev stB (fm fg : Nat → Int32) (g : Nat → Nat) (c : Nat) : Prop := ∀ i, i < c → fm i = nI (g i / 3) ∧ fg i = nI (g i % 3)
set_option maxRecDepth 100000 in
theorem c_X9_add {l : Launch} {SR_text : List (Option Nat)} {SR_end SR_at SR_ahead SR_fault : Int32} {SR_mint SR_grains : Nat → Int32}  {x y : Int32} {c : Nat} (hc : c < 48) : MetP l 0 yX9_add cX9_add 3 none 0 0 [.inr (some (.inl 0)), .inl x, .inl y] [.inr (8, [.inr (some (.inr SR_text)), .inl SR_end, .inl SR_at, .inl SR_ahead, .inl SR_fault, .inr (some (.inl 1)), .inr (some (.inl 2)), .inl ((nI c))]), .inl (0, 48, SR_mint), .inl (0, 48, SR_grains)] (fun r h' => r = none ∧ h' = [.inr (8, [.inr (some (.inr SR_text)), .inl SR_end, .inl SR_at, .inl SR_ahead, .inl SR_fault, .inr (some (.inl 1)), .inr (some (.inl 2)), .inl ((nI (c + 1)))]), .inl (0, 48, (upd SR_mint c x)), .inl (0, 48, (upd SR_grains c y))]) := by
  refine m_X9_add (Nat.le_of_ble_eq_true rfl) ?_
  refine And.intro (fun w => absurd ((nI_leI (a := 48) (by omega) (by omega)).mp w) (by omega)) (fun _ => ?_)
  refine And.intro (vp_in_nI (n := c) (by omega) (by omega)) ?_
  refine And.intro (vp_in_nI (n := c) (by omega) (by omega)) ?_
  rw [nI_clamp (by omega)]
  exact ⟨rfl, by rw [← nI_1 c] <;> rfl⟩
theorem stB_fl {fm fg : Nat → Int32} {g : Nat → Nat} {c m w : Nat} (h : stB fm fg g c) (hw : w ≤ 2) : stB (upd fm c (nI m)) (upd fg c (nI w)) (updN g c (3 * m + w)) (c + 1) := fun i hi => by
  by_cases q : i = c
  · subst q
    rw [upd_sI, upd_sI, updN_s, show (3 * m + w) / 3 = m by omega, show (3 * m + w) % 3 = w by omega]
    exact ⟨rfl, rfl⟩
  · rw [upd_nI q, upd_nI q, updN_n q]
    exact h i (by omega)
theorem stB_cp {fm fg : Nat → Int32} {g : Nat → Nat} {c j : Nat} (h : stB fm fg g c) (hj : j < c) : stB (upd fm c (fm j)) (upd fg c (fg j)) (updN g c (g j)) (c + 1) := fun i hi => by
  by_cases q : i = c
  · subst q
    rw [upd_sI, upd_sI, updN_s]
    exact h j hj
  · rw [upd_nI q, upd_nI q, updN_n q]
    exact h i (by omega)
theorem fsub_k {b : Nat → Nat} {n q k : Nat} (h1 : k ≤ hr b n q) (h2 : hr b n q ≤ 255) : f_sub (aV b n q) (nI k) = nI (hr b n q - k) := by
  rw [aV_n h2]
  exact fsub_n h1
set_option maxRecDepth 100000 in
theorem c_X9_readStamp {l : Launch} {SR_fault : Int32} {SR_mint SR_grains Txt : Nat → Int32}  {b g : Nat → Nat} {stk : Stk} {n p q tm c : Nat} (hn : n ≤ 60) (hq : q ≤ n) (hp : p ≤ n) (hc : c ≤ 48) (eq : q = tmQ b n p) (et : tm = tmN b n p) (ho : ¬ hr b n q = 40) (hb : txB Txt b n) (hg : stB SR_mint SR_grains g c) : MetP l 1 yX9_readStamp cX9_readStamp 6 (some .boolean) 0 0 [.inr (some (.inl 0)), .inl (nI p), .inl (nI tm)] [.inr (8, [.inr (some (.inl 3)), .inl ((nI n)), .inl ((nI q)), .inl ((aV b n q)), .inl SR_fault, .inr (some (.inl 1)), .inr (some (.inl 2)), .inl ((nI c))]), .inl (0, 48, SR_mint), .inl (0, 48, SR_grains), .inl (0, 260, Txt)] (fun r h' => (r = some (.inl 0) ∧ ∃ (k a p' : Nat) (ah : Int32), goF b n true p c g stk k a ∧ (1 ≤ k ∧ k ≤ 9) ∧ a ≤ n ∧ h' = [.inr (8, [.inr (some (.inl 3)), .inl ((nI n)), .inl ((nI p')), .inl ah, .inl ((ftV k a)), .inr (some (.inl 1)), .inr (some (.inl 2)), .inl ((nI c))]), .inl (0, 48, SR_mint), .inl (0, 48, SR_grains), .inl (0, 260, Txt)]) ∨ (r = some (.inl 1) ∧ ∃ (p' c' : Nat) (g' : Nat → Nat) (fm fg : Nat → Int32), goT b n true p c g stk false p' c' g' stk ∧ q < p' ∧ p' ≤ n ∧ c < c' ∧ c' ≤ 48 ∧ stB fm fg g' c' ∧ h' = [.inr (8, [.inr (some (.inl 3)), .inl ((nI n)), .inl ((nI p')), .inl ((aV b n p')), .inl SR_fault, .inr (some (.inl 1)), .inr (some (.inl 2)), .inl ((nI c'))]), .inl (0, 48, fm), .inl (0, 48, fg), .inl (0, 260, Txt)])) := by
  have hbb : ∀ i, i < n → b i ≤ 255 := fun i hi => (hb i hi).1
  obtain ⟨_, _, t1, t9⟩ := tm_le (b := b) hp
  rw [← et] at t1 t9
  by_cases hl : 97 ≤ hr b n q ∧ hr b n q ≤ 104
  · have hqn : q < n := hr_lt2 (b := b) (by omega)
    obtain ⟨r1, r2, r3⟩ := wh_le (b := b) (n := n) (r := q + 1) (by omega)
    -- behind the letter
    refine m_X9_readStamp (fun μ L st h => ∃ (s : Nat) (fm fg : Nat → Int32), μ = tm - s ∧ s ≤ tm ∧ c + tm ≤ 48 ∧ stB fm fg (flF g c (3 * (hr b n q - 97) + whN b n (q + 1)) s) (c + s) ∧ L = [some (.inr (some (.inl 0))), some (.inl (nI p)), some (.inl (nI tm)), some (.inl (nI (hr b n q - 97))), some (.inl (nI (whN b n (q + 1)))), some (.inl (nI s))] ∧ st = [] ∧ h = [.inr (8, [.inr (some (.inl 3)), .inl ((nI n)), .inl ((nI (whQ b n (q + 1)))), .inl ((aV b n (whQ b n (q + 1)))), .inl SR_fault, .inr (some (.inl 1)), .inr (some (.inl 2)), .inl ((nI (c + s)))]), .inl (0, 48, fm), .inl (0, 48, fg), .inl (0, 260, Txt)]) (Nat.le_of_ble_eq_true rfl) ?_ ?_
    · refine call0 (c_X6_ahead_S) rfl rfl ?_
      rintro r h' ⟨rfl, rfl⟩
      refine call0 (c_within) rfl rfl ?_
      rintro r h' ⟨rfl, rfl⟩
      refine br_b (fun w => absurd ((aV_in (lo := 97) (hi := 104) hbb (by omega) (by omega)).mpr hl) w) (fun _ => ?_)
      refine call0 (c_X6_ahead_S) rfl rfl ?_
      rintro r h' ⟨rfl, rfl⟩
      refine call0 (c_X6_skip_S (n := n) (q := q + 1) (b := b) (by omega) (by omega) (nI_1 q) hb) rfl rfl ?_
      rintro r h' ⟨rfl, rfl⟩
      have em : f_sub (aV b n q) 97 = nI (hr b n q - 97) := fsub_k (k := 97) (by omega) (by omega)
      -- the end of it, from where the grain is known
      have fin : ∀ {w : Int32} {q2 : Nat}, w = nI (whN b n (q + 1)) → q2 = whQ b n (q + 1) → b_X9_readStamp_77 l (exb (fun μ L st h => ∃ (s : Nat) (fm fg : Nat → Int32), μ = tm - s ∧ s ≤ tm ∧ c + tm ≤ 48 ∧ stB fm fg (flF g c (3 * (hr b n q - 97) + whN b n (q + 1)) s) (c + s) ∧ L = [some (.inr (some (.inl 0))), some (.inl (nI p)), some (.inl (nI tm)), some (.inl (nI (hr b n q - 97))), some (.inl (nI (whN b n (q + 1)))), some (.inl (nI s))] ∧ st = [] ∧ h = [.inr (8, [.inr (some (.inl 3)), .inl ((nI n)), .inl ((nI (whQ b n (q + 1)))), .inl ((aV b n (whQ b n (q + 1)))), .inl SR_fault, .inr (some (.inl 1)), .inr (some (.inl 2)), .inl ((nI (c + s)))]), .inl (0, 48, fm), .inl (0, 48, fg), .inl (0, 260, Txt)])) (fun r h' => (r = some (.inl 0) ∧ ∃ (k a p' : Nat) (ah : Int32), goF b n true p c g stk k a ∧ (1 ≤ k ∧ k ≤ 9) ∧ a ≤ n ∧ h' = [.inr (8, [.inr (some (.inl 3)), .inl ((nI n)), .inl ((nI p')), .inl ah, .inl ((ftV k a)), .inr (some (.inl 1)), .inr (some (.inl 2)), .inl ((nI c))]), .inl (0, 48, SR_mint), .inl (0, 48, SR_grains), .inl (0, 260, Txt)]) ∨ (r = some (.inl 1) ∧ ∃ (p' c' : Nat) (g' : Nat → Nat) (fm fg : Nat → Int32), goT b n true p c g stk false p' c' g' stk ∧ q < p' ∧ p' ≤ n ∧ c < c' ∧ c' ≤ 48 ∧ stB fm fg g' c' ∧ h' = [.inr (8, [.inr (some (.inl 3)), .inl ((nI n)), .inl ((nI p')), .inl ((aV b n p')), .inl SR_fault, .inr (some (.inl 1)), .inr (some (.inl 2)), .inl ((nI c'))]), .inl (0, 48, fm), .inl (0, 48, fg), .inl (0, 260, Txt)])) [some (.inr (some (.inl 0))), some (.inl (nI p)), some (.inl (nI tm)), some (.inl (f_sub (aV b n q) 97)), some (.inl w), none] [] [.inr (8, [.inr (some (.inl 3)), .inl ((nI n)), .inl ((nI q2)), .inl ((aV b n q2)), .inl SR_fault, .inr (some (.inl 1)), .inr (some (.inl 2)), .inl ((nI c))]), .inl (0, 48, SR_mint), .inl (0, 48, SR_grains), .inl (0, 260, Txt)] := fun {w q2} ew e2 => by
        subst ew e2
        rw [em]
        refine And.intro (fun (v : f_add (nI c) (nI tm) ≤ 48) => ?_) (fun (v : ¬ f_add (nI c) (nI tm) ≤ 48) => ?_)
        · have v : c + tm ≤ 48 := (nI_leI (b := 48) (by omega) (by omega)).mp (by rw [← nI_add]; exact v)
          exact ⟨_, 0, SR_mint, SR_grains, rfl, by omega, v, hg, rfl, rfl, rfl⟩
        · have v : 48 < c + tm := Nat.lt_of_not_le fun z => v (by show nI c + nI tm ≤ nI 48; rw [nI_add]; exact (nI_leI (by omega) (by omega)).mpr z)
          refine call0 (c_X6_fails_S) rfl rfl ?_
          rintro r h' ⟨rfl, rfl⟩
          exact And.intro (Or.inl rfl) (Or.inl ⟨rfl, 6, p, _, _, st_many (by rw [← eq]; exact hl) (by rw [← et]; exact v), by omega, hp, rfl⟩)
      refine call0 (c_X6_ahead_S) rfl rfl ?_
      rintro r h' ⟨rfl, rfl⟩
      refine And.intro (fun v => ?_) (fun v => ?_)
      · have v := (aV_eq (k := 116) hbb (by omega)).mp v
        have hv := hr_lt v (by omega)
        refine call0 (c_X6_ahead_S) rfl rfl ?_
        rintro r h' ⟨rfl, rfl⟩
        refine And.intro (fun _ => ?_) (fun z => absurd ((aV_eq (k := 116) hbb (by omega)).mpr v) z)
        refine call0 (c_X6_skip_S (n := n) (q := q + 1 + 1) (b := b) (by omega) (by omega) (nI_1 (q + 1)) hb) rfl rfl ?_
        rintro r h' ⟨rfl, rfl⟩
        exact fin (by unfold whN; rw [if_pos v]; rfl) (by unfold whQ; rw [if_pos v])
      · have v : ¬ hr b n (q + 1) = 116 := fun z => v ((aV_eq (k := 116) hbb (by omega)).mpr z)
        refine call0 (c_X6_ahead_S) rfl rfl ?_
        rintro r h' ⟨rfl, rfl⟩
        refine And.intro (fun u => ?_) (fun u => ?_)
        · have u := (aV_eq (k := 102) hbb (by omega)).mp u
          have hv := hr_lt u (by omega)
          refine call0 (c_X6_ahead_S) rfl rfl ?_
          rintro r h' ⟨rfl, rfl⟩
          refine And.intro (fun z => absurd ((aV_eq (k := 116) hbb (by omega)).mp z) v) (fun _ => ?_)
          refine call0 (c_X6_skip_S (n := n) (q := q + 1 + 1) (b := b) (by omega) (by omega) (nI_1 (q + 1)) hb) rfl rfl ?_
          rintro r h' ⟨rfl, rfl⟩
          exact fin (by unfold whN; rw [if_neg v, if_pos u]; rfl) (by unfold whQ; rw [if_neg v, if_pos u])
        · have u : ¬ hr b n (q + 1) = 102 := fun z => u ((aV_eq (k := 102) hbb (by omega)).mpr z)
          exact fin (by unfold whN; rw [if_neg v, if_neg u]; rfl) (by unfold whQ; rw [if_neg v, if_neg u])
    · rintro μ L st h ⟨s, fm, fg, hμ, h1, h2, h3, rfl, rfl, rfl⟩
      refine And.intro (fun v => ?_) (fun v => ?_)
      · have v := (nI_leI (by omega) (by omega)).mp v
        obtain rfl : s = tm := by omega
        refine And.intro (Or.inr rfl) (Or.inr ⟨rfl, whQ b n (q + 1), c + s, _, fm, fg, ?_, by omega, by omega, by omega, h2, h3, rfl⟩)
        have z := st_stamp (b := b) (n := n) (p := p) (c := c) (g := g) (stk := stk) (by rw [← eq]; exact hl) (by rw [← et]; omega)
        rw [← eq, ← et] at z
        exact z
      · have v : s < tm := Nat.lt_of_not_le fun z => v ((nI_leI (by omega) (by omega)).mpr z)
        refine call0 (c_X9_add (c := c + s) (by omega)) rfl rfl ?_
        rintro r h' ⟨rfl, rfl⟩
        exact ⟨tm - (s + 1), by omega, s + 1, _, _, rfl, by omega, h2, stB_fl h3 r3, by rw [← nI_1 s] <;> rfl, rfl, rfl⟩
  · refine m_X9_readStamp (fun _ _ _ _ => False) (Nat.le_of_ble_eq_true rfl) ?_ (fun _ _ _ _ z => z.elim)
    refine call0 (c_X6_ahead_S) rfl rfl ?_
    rintro r h' ⟨rfl, rfl⟩
    refine call0 (c_within) rfl rfl ?_
    rintro r h' ⟨rfl, rfl⟩
    refine br_b (fun _ => ?_) (fun w => absurd ((aV_in (lo := 97) (hi := 104) hbb (by omega) (by omega)).mp w) hl)
    refine call0 (c_X6_at_S) rfl rfl ?_
    rintro r h' ⟨rfl, rfl⟩
    refine call0 (c_X6_fails_S) rfl rfl ?_
    rintro r h' ⟨rfl, rfl⟩
    exact And.intro (Or.inl rfl) (Or.inl ⟨rfl, 1, q, q, _, by rw [eq]; exact st_bad (by rw [← eq]; exact ho) (by rw [← eq]; exact hl), by omega, hq, rfl⟩)

