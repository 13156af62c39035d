/-! ===== a post's text, read by both sides: what it says ===== -/
def dg (b : Nat → Nat) (n p : Nat) : Bool := decide (48 ≤ hr b n p) && decide (hr b n p ≤ 57)
theorem dg_t {b : Nat → Nat} {n p : Nat} : dg b n p = true ↔ (48 ≤ hr b n p ∧ hr b n p ≤ 57) := by
  unfold dg
  rw [Bool.and_eq_true, decide_eq_true_eq, decide_eq_true_eq]
theorem dg_lt {b : Nat → Nat} {n p : Nat} (h : dg b n p = true) : p < n := hr_lt2 (b := b) (by have := dg_t.mp h; omega)
/-- a FAULT (its number, its place), or a number and the place behind it -/
abbrev PRs : Type := (Nat × Nat) ⊕ (Nat × Nat)
def nmE (v q m k p : Nat) : PRs := if v < m then .inr (v, q) else .inl (k, p)
def nmR (b : Nat → Nat) (n p m k : Nat) : PRs := if dg b n p = true then (if dg b n (p + 1) = true then (if dg b n (p + 2) = true then .inl (2, p + 2) else nmE (10 * (hr b n p - 48) + (hr b n (p + 1) - 48)) (p + 2) m k p) else nmE (hr b n p - 48) (p + 1) m k p) else .inl (1, p)
def spR (b : Nat → Nat) (n p : Nat) : PRs := match nmR b n p 24 3 with
  | .inl f => .inl f
  | .inr (x, q) => if hr b n q = 44 then (match nmR b n (q + 1) 16 3 with
    | .inl f => .inl f
    | .inr (y, r) => .inr (24 * y + x, r)) else .inl (1, q)
abbrev Ord : Type := Nat × Nat × Nat
/-- an order for a letter, behind its number -/
def ltR (b : Nat → Nat) (n c T p : Nat) : (Nat × Nat) ⊕ (Ord × Nat) :=
  if hr b n (p + 1) = 64 then (match spR b n (p + 2) with
    | .inl f => .inl f
    | .inr (v, q) => .inr ((64, hr b n p - 48, v), q))
  else if hr b n (p + 1) = 43 ∨ hr b n (p + 1) = 45 ∨ hr b n (p + 1) = 61 then (if T.testBit (hr b n p - 48) = true then (match nmR b n (p + 2) (if hr b n (p + 1) = 61 then 100 else c) 7 with
    | .inl f => .inl f
    | .inr (v, q) => .inr ((hr b n (p + 1), hr b n p - 48, v), q)) else .inl (7, p))
  else .inl (1, p + 1)
def lnR (b : Nat → Nat) (n c T p : Nat) : (Nat × Nat) ⊕ (Ord × Nat) :=
  if hr b n p = 35 then (match spR b n (p + 1) with
    | .inl f => .inl f
    | .inr (v, q) => .inr ((35, 0, v), q))
  else ltR b n c T p
def fcB (b : Nat → Nat) (n p : Nat) : Bool := decide (hr b n p = 35) || (decide (48 ≤ hr b n p) && decide (hr b n p ≤ 55))
/-- LETTERS that are told behind an order -/
def tdO (T : Nat) (o : Ord) : Nat := if o.1 = 64 then T ||| 2 ^ o.2.1 else T
/-- a line, so many stand before it -/
def lnG (b : Nat → Nat) (n c m T p : Nat) : (Nat × Nat) ⊕ (Ord × Nat) := if fcB b n p = true then (if m = 20 then .inl (4, p) else lnR b n c T p) else .inl (1, p)
abbrev PoR : Type := (Nat × Nat) ⊕ List Ord
def ctO (os : List Ord) (r : PoR) : PoR := match r with
  | .inl f => .inl f
  | .inr os' => .inr (os ++ os')
def psG (b : Nat → Nat) (n c : Nat) : Nat → Nat → Nat → Nat → PoR
  | 0, _, _, _ => .inl (0, 0)
  | f + 1, m, p, T => match lnG b n c m T p with
    | .inl x => .inl x
    | .inr (o, q) => if n ≤ q then .inr [o] else if hr b n q = 59 then ctO [o] (psG b n c f (m + 1) (q + 1) (tdO T o)) else .inl (1, q)
def psR (b : Nat → Nat) (n c T : Nat) : PoR := psG b n c 21 0 0 T
theorem ct_ct {a b : List Ord} {r : PoR} : ctO a (ctO b r) = ctO (a ++ b) r := by
  cases r with
  | inl f => rfl
  | inr os => exact congrArg Sum.inr (List.append_assoc a b os).symm
/-- what may be said in a line -/
def okO (c : Nat) (o : Ord) : Prop := o.2.1 ≤ 7 ∧ o.2.2 ≤ 383 ∧ (o.1 = 35 ∨ o.1 = 64 ∨ ((o.1 = 43 ∨ o.1 = 45) ∧ o.2.2 < c) ∨ (o.1 = 61 ∧ o.2.2 ≤ 99))
theorem nmR_le {b : Nat → Nat} {n p m k v q : Nat} (h : nmR b n p m k = .inr (v, q)) : p < q ∧ q ≤ n ∧ v < m ∧ v ≤ 99 := by
  unfold nmR at h
  split at h
  · rename_i h1
    have l1 := dg_lt h1
    have g1 := dg_t.mp h1
    split at h
    · rename_i h2
      have l2 := dg_lt h2
      have g2 := dg_t.mp h2
      split at h
      · cases h
      · unfold nmE at h
        split at h
        · rename_i hv
          cases h
          exact ⟨by omega, by omega, hv, by omega⟩
        · cases h
    · unfold nmE at h
      split at h
      · rename_i hv
        cases h
        exact ⟨by omega, by omega, hv, by omega⟩
      · cases h
  · cases h
theorem spR_le {b : Nat → Nat} {n p v q : Nat} (h : spR b n p = .inr (v, q)) : p < q ∧ q ≤ n ∧ v ≤ 383 := by
  unfold spR at h
  split at h
  · cases h
  · rename_i x r e1
    have a1 := nmR_le e1
    split at h
    · split at h
      · cases h
      · rename_i y r2 e2
        have a2 := nmR_le e2
        cases h
        exact ⟨by omega, by omega, by omega⟩
    · cases h
theorem fcB_t {b : Nat → Nat} {n p : Nat} : fcB b n p = true ↔ (hr b n p = 35 ∨ (48 ≤ hr b n p ∧ hr b n p ≤ 55)) := by
  unfold fcB
  rw [Bool.or_eq_true, Bool.and_eq_true, decide_eq_true_eq, decide_eq_true_eq, decide_eq_true_eq]
theorem lnR_le {b : Nat → Nat} {n c T p q : Nat} {o : Ord} (h7 : ¬ hr b n p = 35 → hr b n p ≤ 55) (h : lnR b n c T p = .inr (o, q)) : p < q ∧ q ≤ n ∧ okO c o := by
  unfold lnR at h
  split at h
  · split at h
    · cases h
    · rename_i v r e1
      have a1 := spR_le e1
      cases h
      exact ⟨by omega, a1.2.1, Nat.zero_le _, a1.2.2, Or.inl rfl⟩
  · rename_i n35
    have h7 := h7 n35
    unfold ltR at h
    split at h
    · split at h
      · cases h
      · rename_i v r e1
        have a1 := spR_le e1
        cases h
        exact ⟨by omega, a1.2.1, show hr b n p - 48 ≤ 7 by omega, a1.2.2, Or.inr (Or.inl rfl)⟩
    · split at h
      · rename_i ho
        split at h
        · split at h
          · cases h
          · rename_i v r e1
            have a1 := nmR_le e1
            cases h
            refine ⟨by omega, a1.2.1, show hr b n p - 48 ≤ 7 by omega, show v ≤ 383 by omega, ?_⟩
            rcases ho with z | z | z
            · refine Or.inr (Or.inr (Or.inl ⟨Or.inl z, ?_⟩))
              have a2 := a1.2.2.1
              rw [if_neg (by omega)] at a2
              exact a2
            · refine Or.inr (Or.inr (Or.inl ⟨Or.inr z, ?_⟩))
              have a2 := a1.2.2.1
              rw [if_neg (by omega)] at a2
              exact a2
            · exact Or.inr (Or.inr (Or.inr ⟨z, show v ≤ 99 by omega⟩))
        · cases h
      · cases h
theorem nmR_f {b : Nat → Nat} {n p m k g a : Nat} (hp : p ≤ n) (hk : 1 ≤ k ∧ k ≤ 7) (h : nmR b n p m k = .inl (g, a)) : (1 ≤ g ∧ g ≤ 7) ∧ a ≤ n := by
  unfold nmR at h
  split at h
  · split at h
    · split at h
      · rename_i h3
        have l3 := dg_lt h3
        cases h
        exact ⟨by omega, by omega⟩
      · unfold nmE at h
        split at h
        · cases h
        · cases h
          exact ⟨hk, hp⟩
    · unfold nmE at h
      split at h
      · cases h
      · cases h
        exact ⟨hk, hp⟩
  · cases h
    exact ⟨by omega, hp⟩
theorem spR_f {b : Nat → Nat} {n p g a : Nat} (hp : p ≤ n) (h : spR b n p = .inl (g, a)) : (1 ≤ g ∧ g ≤ 7) ∧ a ≤ n := by
  unfold spR at h
  split at h
  · rename_i f e1
    cases h
    exact nmR_f hp (by omega) e1
  · rename_i x q e1
    have a1 := nmR_le e1
    split at h
    · rename_i hc
      have ql := hr_lt hc (by omega)
      split at h
      · rename_i f e2
        cases h
        exact nmR_f (by omega) (by omega) e2
      · cases h
    · cases h
      exact ⟨by omega, by omega⟩
theorem lnG_f {b : Nat → Nat} {n c m T p g a : Nat} (hp : p ≤ n) (h : lnG b n c m T p = .inl (g, a)) : (1 ≤ g ∧ g ≤ 7) ∧ a ≤ n := by
  unfold lnG at h
  split at h
  · rename_i hf
    have pl : p < n := hr_lt2 (b := b) (by have := fcB_t.mp hf; omega)
    split at h
    · cases h
      exact ⟨by omega, hp⟩
    · unfold lnR at h
      split at h
      · split at h
        · rename_i f e1
          cases h
          exact spR_f (by omega) e1
        · cases h
      · unfold ltR at h
        split at h
        · rename_i h64
          have ql := hr_lt h64 (by omega)
          split at h
          · rename_i f e1
            cases h
            exact spR_f (by omega) e1
          · cases h
        · split at h
          · rename_i ho
            have ql : p + 1 < n := hr_lt2 (b := b) (by omega)
            split at h
            · split at h
              · rename_i f e1
                cases h
                exact nmR_f (by omega) (by omega) e1
              · cases h
            · cases h
              exact ⟨by omega, by omega⟩
          · cases h
            exact ⟨by omega, by omega⟩
  · cases h
    exact ⟨by omega, hp⟩
theorem lnG_20 {b : Nat → Nat} {n c T p q : Nat} {o : Ord} (h : lnG b n c 20 T p = .inr (o, q)) : False := by
  unfold lnG at h
  split at h
  · rw [if_pos rfl] at h
    cases h
  · cases h
theorem ct_nil {r : PoR} : ctO [] r = r := by
  cases r <;> rfl
/-! ===== the class's reader ===== -/
set_option maxRecDepth 100000 in
theorem c_X6_skip_P {l : Launch} {zs zl zn : List (Option Nat)} {TX : Nat → Int32} {K ah fa ln td sp : Int32} {b : Nat → Nat} {n q : Nat} (hn : n ≤ 240) (hq : q ≤ n) (eK : f_add K 1 = nI q) (hb : txB TX b n) : MetP l 0 yX6_skip cX6_skip 1 none 0 0 [.inr (some (.inl 0))] [.inr (5, [.inr (some (.inl 1)), .inl (nI n), .inl K, .inl ah, .inl fa, .inr (some (.inr zs)), .inr (some (.inr zl)), .inr (some (.inr zn)), .inl ln, .inl td, .inl sp]), .inl (0, 260, TX)] (fun r h' => r = none ∧ h' = [.inr (5, [.inr (some (.inl 1)), .inl (nI n), .inl (nI q), .inl (aV b n q), .inl fa, .inr (some (.inr zs)), .inr (some (.inr zl)), .inr (some (.inr zn)), .inl ln, .inl td, .inl sp]), .inl (0, 260, TX)]) := by
  refine m_X6_skip (Nat.le_of_ble_eq_true rfl) ?_
  refine And.intro (fun (w : f_add K 1 < 0) => ?_) (fun _ => ?_)
  · rw [eK] at w
    exact absurd ((nI_ltI (b := 0) (by omega) (by omega)).mp w) (by omega)
  · refine And.intro (fun (w : nI n ≤ f_add K 1) => ?_) (fun (w : ¬ nI n ≤ f_add K 1) => ?_)
    · rw [eK] at w
      have w := (nI_leI (by omega) (by omega)).mp w
      have ea : aV b n q = -1 := if_neg (by omega)
      exact ⟨rfl, by rw [ea, ← eK] <;> rfl⟩
    · rw [eK] at w
      have w : q < n := Nat.lt_of_not_le fun z => w ((nI_leI (by omega) (by omega)).mpr z)
      refine And.intro (fun (v : nI 260 ≤ f_add K 1) => ?_) (fun _ => ?_)
      · rw [eK] at v
        exact absurd ((nI_leI (by omega) (by omega)).mp v) (by omega)
      · refine And.intro (show vp_in (f_add K 1) 260 from by rw [eK]; exact vp_in_nI (by omega) (by omega)) ?_
        have ea : aV b n q = TX (f_add K 1).toNatClampNeg := by
          rw [eK, nI_clamp (by omega), (hb q w).2]
          exact if_pos w
        exact ⟨rfl, by rw [ea, ← eK] <;> rfl⟩
set_option maxRecDepth 100000 in
theorem c_X6_at_P {l : Launch} {zs zl zn : List (Option Nat)} {TX : Nat → Int32} {en at_ ah fa ln td sp : Int32} : MetP l 0 yX6_at cX6_at 1 (some .int) 0 0 [.inr (some (.inl 0))] [.inr (5, [.inr (some (.inl 1)), .inl en, .inl at_, .inl ah, .inl fa, .inr (some (.inr zs)), .inr (some (.inr zl)), .inr (some (.inr zn)), .inl ln, .inl td, .inl sp]), .inl (0, 260, TX)] (fun r h' => r = some (.inl at_) ∧ h' = [.inr (5, [.inr (some (.inl 1)), .inl en, .inl at_, .inl ah, .inl fa, .inr (some (.inr zs)), .inr (some (.inr zl)), .inr (some (.inr zn)), .inl ln, .inl td, .inl sp]), .inl (0, 260, TX)]) := by
  refine m_X6_at (Nat.le_of_ble_eq_true rfl) ?_
  exact ⟨rfl, rfl⟩
set_option maxRecDepth 100000 in
theorem c_X6_ahead_P {l : Launch} {zs zl zn : List (Option Nat)} {TX : Nat → Int32} {en at_ ah fa ln td sp : Int32} : MetP l 0 yX6_ahead cX6_ahead 1 (some .int) 0 0 [.inr (some (.inl 0))] [.inr (5, [.inr (some (.inl 1)), .inl en, .inl at_, .inl ah, .inl fa, .inr (some (.inr zs)), .inr (some (.inr zl)), .inr (some (.inr zn)), .inl ln, .inl td, .inl sp]), .inl (0, 260, TX)] (fun r h' => r = some (.inl ah) ∧ h' = [.inr (5, [.inr (some (.inl 1)), .inl en, .inl at_, .inl ah, .inl fa, .inr (some (.inr zs)), .inr (some (.inr zl)), .inr (some (.inr zn)), .inl ln, .inl td, .inl sp]), .inl (0, 260, TX)]) := by
  refine m_X6_ahead (Nat.le_of_ble_eq_true rfl) ?_
  exact ⟨rfl, rfl⟩
set_option maxRecDepth 100000 in
theorem c_X6_fault_P {l : Launch} {zs zl zn : List (Option Nat)} {TX : Nat → Int32} {en at_ ah fa ln td sp : Int32} : MetP l 0 yX6_fault cX6_fault 1 (some .int) 0 0 [.inr (some (.inl 0))] [.inr (5, [.inr (some (.inl 1)), .inl en, .inl at_, .inl ah, .inl fa, .inr (some (.inr zs)), .inr (some (.inr zl)), .inr (some (.inr zn)), .inl ln, .inl td, .inl sp]), .inl (0, 260, TX)] (fun r h' => r = some (.inl fa) ∧ h' = [.inr (5, [.inr (some (.inl 1)), .inl en, .inl at_, .inl ah, .inl fa, .inr (some (.inr zs)), .inr (some (.inr zl)), .inr (some (.inr zn)), .inl ln, .inl td, .inl sp]), .inl (0, 260, TX)]) := by
  refine m_X6_fault (Nat.le_of_ble_eq_true rfl) ?_
  exact ⟨rfl, rfl⟩
set_option maxRecDepth 100000 in
theorem c_X6_fails_P {l : Launch} {zs zl zn : List (Option Nat)} {TX : Nat → Int32} {en at_ ah fa ln td sp x y : Int32} : MetP l 0 yX6_fails cX6_fails 3 (some .boolean) 0 0 [.inr (some (.inl 0)), .inl x, .inl y] [.inr (5, [.inr (some (.inl 1)), .inl en, .inl at_, .inl ah, .inl fa, .inr (some (.inr zs)), .inr (some (.inr zl)), .inr (some (.inr zn)), .inl ln, .inl td, .inl sp]), .inl (0, 260, TX)] (fun r h' => r = some (.inl 0) ∧ h' = [.inr (5, [.inr (some (.inl 1)), .inl en, .inl at_, .inl ah, .inl (f_sub (f_mul (-1000) x) y), .inr (some (.inr zs)), .inr (some (.inr zl)), .inr (some (.inr zn)), .inl ln, .inl td, .inl sp]), .inl (0, 260, TX)]) := by
  refine m_X6_fails (Nat.le_of_ble_eq_true rfl) ?_
  exact And.intro (Or.inl rfl) ⟨rfl, rfl⟩
set_option maxRecDepth 100000 in
theorem c_X6_ended_P {l : Launch} {zs zl zn : List (Option Nat)} {TX : Nat → Int32} {ah fa ln td sp : Int32} {n p : Nat} (hn : n ≤ 240) (hp : p ≤ 240) : MetP l 0 yX6_ended cX6_ended 1 (some .boolean) 0 0 [.inr (some (.inl 0))] [.inr (5, [.inr (some (.inl 1)), .inl (nI n), .inl (nI p), .inl ah, .inl fa, .inr (some (.inr zs)), .inr (some (.inr zl)), .inr (some (.inr zn)), .inl ln, .inl td, .inl sp]), .inl (0, 260, TX)] (fun r h' => r = some (.inl (bI (n ≤ p))) ∧ h' = [.inr (5, [.inr (some (.inl 1)), .inl (nI n), .inl (nI p), .inl ah, .inl fa, .inr (some (.inr zs)), .inr (some (.inr zl)), .inr (some (.inr zn)), .inl ln, .inl td, .inl sp]), .inl (0, 260, TX)]) := by
  refine m_X6_ended (Nat.le_of_ble_eq_true rfl) ?_
  refine And.intro (fun w => ?_) (fun w => ?_)
  · have w := (nI_ltI (by omega) (by omega)).mp w
    exact And.intro (Or.inl rfl) (by rw [bI_f (by omega)]; exact ⟨rfl, rfl⟩)
  · have w : ¬ p < n := fun z => w ((nI_ltI (by omega) (by omega)).mpr z)
    exact And.intro (Or.inr rfl) (by rw [bI_t (by omega)]; exact ⟨rfl, rfl⟩)
set_option maxRecDepth 100000 in
theorem c_X6_begin_P {l : Launch} {zs zl zn : List (Option Nat)} {TX : Nat → Int32} {en at_ ah fa ln td sp : Int32} {b : Nat → Nat} {n : Nat} (hn : n ≤ 240) (hb : txB TX b n) : MetP l 1 yX6_begin cX6_begin 2 none 0 0 [.inr (some (.inl 0)), .inl (nI n)] [.inr (5, [.inr (some (.inl 1)), .inl en, .inl at_, .inl ah, .inl fa, .inr (some (.inr zs)), .inr (some (.inr zl)), .inr (some (.inr zn)), .inl ln, .inl td, .inl sp]), .inl (0, 260, TX)] (fun r h' => r = none ∧ h' = [.inr (5, [.inr (some (.inl 1)), .inl (nI n), .inl (nI 0), .inl (aV b n 0), .inl 0, .inr (some (.inr zs)), .inr (some (.inr zl)), .inr (some (.inr zn)), .inl ln, .inl td, .inl sp]), .inl (0, 260, TX)]) := by
  refine m_X6_begin (Nat.le_of_ble_eq_true rfl) ?_
  refine call0 (c_X6_skip_P (n := n) (q := 0) (b := b) hn (by omega) (by decide) hb) rfl rfl ?_
  rintro r h' ⟨rfl, rfl⟩
  exact ⟨rfl, rfl⟩
set_option maxRecDepth 100000 in
theorem c_X6_reads_P {l : Launch} {zs zl zn : List (Option Nat)} {TX : Nat → Int32} {fa ln td sp : Int32} {b : Nat → Nat} {n p k : Nat} (hn : n ≤ 240) (hp : p ≤ n) (hk : k ≤ 255) (hb : txB TX b n) : MetP l 1 yX6_reads cX6_reads 2 (some .boolean) 0 0 [.inr (some (.inl 0)), .inl (nI k)] [.inr (5, [.inr (some (.inl 1)), .inl (nI n), .inl (nI p), .inl (aV b n p), .inl fa, .inr (some (.inr zs)), .inr (some (.inr zl)), .inr (some (.inr zn)), .inl ln, .inl td, .inl sp]), .inl (0, 260, TX)] (fun r h' => (hr b n p = k ∧ r = some (.inl 1) ∧ h' = [.inr (5, [.inr (some (.inl 1)), .inl (nI n), .inl (nI (p + 1)), .inl (aV b n (p + 1)), .inl fa, .inr (some (.inr zs)), .inr (some (.inr zl)), .inr (some (.inr zn)), .inl ln, .inl td, .inl sp]), .inl (0, 260, TX)]) ∨ (¬ hr b n p = k ∧ r = some (.inl 0) ∧ h' = [.inr (5, [.inr (some (.inl 1)), .inl (nI n), .inl (nI p), .inl (aV b n p), .inl (ftV 1 p), .inr (some (.inr zs)), .inr (some (.inr zl)), .inr (some (.inr zn)), .inl ln, .inl td, .inl sp]), .inl (0, 260, TX)])) := by
  have hb' : ∀ i, i < n → b i ≤ 255 := fun i hi => (hb i hi).1
  refine m_X6_reads (Nat.le_of_ble_eq_true rfl) ?_
  refine And.intro (fun (w : aV b n p = nI k) => ?_) (fun (w : ¬ aV b n p = nI k) => ?_)
  · have w := (aV_eq hb' hk).mp w
    have pn := hr_lt w hk
    refine call0 (c_X6_skip_P (n := n) (q := p + 1) (b := b) hn (by omega) (nI_1 p) hb) rfl rfl ?_
    rintro r h' ⟨rfl, rfl⟩
    exact And.intro (Or.inr rfl) (Or.inl ⟨w, rfl, rfl⟩)
  · have w : ¬ hr b n p = k := fun z => w ((aV_eq hb' hk).mpr z)
    refine call0 (c_X6_fails_P) rfl rfl ?_
    rintro r h' ⟨rfl, rfl⟩
    exact And.intro (Or.inl rfl) (Or.inr ⟨w, rfl, rfl⟩)
theorem aV_dg {b : Nat → Nat} {n p : Nat} (hb : ∀ i, i < n → b i ≤ 255) : ((48 : Int32) ≤ aV b n p ∧ aV b n p ≤ 57) ↔ dg b n p = true := by
  rw [dg_t]
  exact aV_in (lo := 48) (hi := 57) hb (by omega) (by omega)
theorem dig_k {b : Nat → Nat} {n p v : Nat} (h : dg b n p = true) : f_sub (f_add (f_mul 10 (nI v)) (aV b n p)) 48 = nI (10 * v + (hr b n p - 48)) := by
  have g := dg_t.mp h
  rw [aV_n (by omega), show f_mul 10 (nI v) = nI (10 * v) from nI_mul 10 v, show f_add (nI (10 * v)) (nI (hr b n p)) = nI (10 * v + hr b n p) from nI_add _ _, show f_sub (nI (10 * v + hr b n p)) 48 = nI (10 * v + hr b n p - 48) from nI_sub (b := 48) (by omega), show 10 * v + hr b n p - 48 = 10 * v + (hr b n p - 48) by omega]
set_option maxRecDepth 100000 in
theorem c_X6_readNumber_P {l : Launch} {zs zl zn : List (Option Nat)} {TX : Nat → Int32} {fa ln td sp ms : Int32} {b : Nat → Nat} {n p m k : Nat} (hn : n ≤ 240) (hp : p ≤ n) (hms : ∀ v, v ≤ 99 → (nI v ≤ ms ↔ v < m)) (hb : txB TX b n) : MetP l 1 yX6_readNumber cX6_readNumber 7 (some .int) 0 0 [.inr (some (.inl 0)), .inl 2, .inl ms, .inl (nI k)] [.inr (5, [.inr (some (.inl 1)), .inl (nI n), .inl (nI p), .inl (aV b n p), .inl fa, .inr (some (.inr zs)), .inr (some (.inr zl)), .inr (some (.inr zn)), .inl ln, .inl td, .inl sp]), .inl (0, 260, TX)] (fun r h' => (∃ v q, nmR b n p m k = .inr (v, q) ∧ r = some (.inl (nI v)) ∧ h' = [.inr (5, [.inr (some (.inl 1)), .inl (nI n), .inl (nI q), .inl (aV b n q), .inl fa, .inr (some (.inr zs)), .inr (some (.inr zl)), .inr (some (.inr zn)), .inl ln, .inl td, .inl sp]), .inl (0, 260, TX)]) ∨ (∃ g a q, nmR b n p m k = .inl (g, a) ∧ q ≤ n ∧ r = some (.inl (-1)) ∧ h' = [.inr (5, [.inr (some (.inl 1)), .inl (nI n), .inl (nI q), .inl (aV b n q), .inl (ftV g a), .inr (some (.inr zs)), .inr (some (.inr zl)), .inr (some (.inr zn)), .inl ln, .inl td, .inl sp]), .inl (0, 260, TX)])) := by
  have hb' : ∀ i, i < n → b i ≤ 255 := fun i hi => (hb i hi).1
  -- behind the digits
  have e57 : ∀ {q v : Nat} {i : Int32} {C12 : Blk}, q ≤ n → p < q → v ≤ 99 → (dg b n q = true → nmR b n p m k = .inl (2, q)) → (¬ dg b n q = true → nmR b n p m k = nmE v q m k p) → b_X6_readNumber_57 l C12 (fun r h' => (∃ v q, nmR b n p m k = .inr (v, q) ∧ r = some (.inl (nI v)) ∧ h' = [.inr (5, [.inr (some (.inl 1)), .inl (nI n), .inl (nI q), .inl (aV b n q), .inl fa, .inr (some (.inr zs)), .inr (some (.inr zl)), .inr (some (.inr zn)), .inl ln, .inl td, .inl sp]), .inl (0, 260, TX)]) ∨ (∃ g a q, nmR b n p m k = .inl (g, a) ∧ q ≤ n ∧ r = some (.inl (-1)) ∧ h' = [.inr (5, [.inr (some (.inl 1)), .inl (nI n), .inl (nI q), .inl (aV b n q), .inl (ftV g a), .inr (some (.inr zs)), .inr (some (.inr zl)), .inr (some (.inr zn)), .inl ln, .inl td, .inl sp]), .inl (0, 260, TX)])) [some (.inr (some (.inl 0))), some (.inl 2), some (.inl ms), some (.inl (nI k)), some (.inl (nI p)), some (.inl (nI v)), some (.inl i)] [] [.inr (5, [.inr (some (.inl 1)), .inl (nI n), .inl (nI q), .inl (aV b n q), .inl fa, .inr (some (.inr zs)), .inr (some (.inr zl)), .inr (some (.inr zn)), .inl ln, .inl td, .inl sp]), .inl (0, 260, TX)] := fun {q v i C12} hq hpq hv h1 h2 => by
    refine And.intro (fun (w : nI q = nI p) => ?_) (fun _ => ?_)
    · have w := (nI_eq (by omega) (by omega)).mp w
      omega
    · refine call0 (c_within) rfl rfl ?_
      rintro r h' ⟨rfl, rfl⟩
      refine br_b (fun w => ?_) (fun w => ?_)
      · have w : ¬ dg b n q = true := fun z => w ((aV_dg hb').mpr z)
        have e := h2 w
        unfold nmE at e
        refine And.intro (fun (u : nI v ≤ ms) => ?_) (fun (u : ¬ nI v ≤ ms) => ?_)
        · rw [if_pos ((hms v hv).mp u)] at e
          exact Or.inl ⟨v, q, e, rfl, rfl⟩
        · rw [if_neg (fun z => u ((hms v hv).mpr z))] at e
          refine call0 (c_X6_fails_P) rfl rfl ?_
          rintro r h' ⟨rfl, rfl⟩
          exact Or.inr ⟨k, p, q, e, hq, rfl, rfl⟩
      · have w := (aV_dg hb').mp w
        refine call0 (c_X6_fails_P) rfl rfl ?_
        rintro r h' ⟨rfl, rfl⟩
        exact Or.inr ⟨2, q, q, h1 w, hq, rfl, rfl⟩
  refine m_X6_readNumber (fun μ L st h => ∃ (i q v : Nat), μ = 2 - i ∧ i ≤ 2 ∧ q = p + i ∧ q ≤ n ∧ ((i = 0 ∧ v = 0) ∨ (i = 1 ∧ dg b n p = true ∧ v = hr b n p - 48) ∨ (i = 2 ∧ dg b n p = true ∧ dg b n (p + 1) = true ∧ v = 10 * (hr b n p - 48) + (hr b n (p + 1) - 48))) ∧ L = [some (.inr (some (.inl 0))), some (.inl 2), some (.inl ms), some (.inl (nI k)), some (.inl (nI p)), some (.inl (nI v)), some (.inl (nI i))] ∧ st = [] ∧ h = [.inr (5, [.inr (some (.inl 1)), .inl (nI n), .inl (nI q), .inl (aV b n q), .inl fa, .inr (some (.inr zs)), .inr (some (.inr zl)), .inr (some (.inr zn)), .inl ln, .inl td, .inl sp]), .inl (0, 260, TX)]) (Nat.le_of_ble_eq_true rfl) ?_ ?_
  · exact ⟨_, 0, p, 0, rfl, by omega, rfl, hp, Or.inl ⟨rfl, rfl⟩, rfl, rfl, rfl⟩
  · rintro μ L st h ⟨i, q, v, hμ, h1, rfl, h3, h4, rfl, rfl, rfl⟩
    rcases h4 with ⟨rfl, rfl⟩ | ⟨rfl, d0, rfl⟩ | ⟨rfl, d0, d1, rfl⟩
    · refine And.intro (fun z => absurd ((nI_leI (a := 2) (b := 0) (by omega) (by omega)).mp z) (by omega)) (fun _ => ?_)
      refine call0 (c_within) rfl rfl ?_
      rintro r h' ⟨rfl, rfl⟩
      refine br_b (fun w => ?_) (fun w => ?_)
      · have w : ¬ dg b n p = true := fun z => w ((aV_dg hb').mpr z)
        have e : nmR b n p m k = .inl (1, p) := if_neg w
        refine And.intro (fun _ => ?_) (fun z => absurd rfl z)
        refine call0 (c_X6_fails_P) rfl rfl ?_
        rintro r h' ⟨rfl, rfl⟩
        exact Or.inr ⟨1, p, p, e, h3, rfl, rfl⟩
      · have w := (aV_dg hb').mp w
        have pl := dg_lt w
        refine call0 (c_X6_skip_P (n := n) (q := p + 1) (b := b) hn (by omega) (nI_1 p) hb) rfl rfl ?_
        rintro r h' ⟨rfl, rfl⟩
        exact ⟨1, by omega, 1, p + 1, hr b n p - 48, rfl, by omega, rfl, by omega, Or.inr (Or.inl ⟨rfl, w, rfl⟩), by rw [show nI (hr b n p - 48) = f_sub (f_add (f_mul 10 (nI 0)) (aV b n (p + 0))) 48 from ((dig_k (v := 0) w).trans (by rw [Nat.mul_zero, Nat.zero_add] <;> rfl)).symm] <;> rfl, rfl, rfl⟩
    · have g0 := dg_t.mp d0
      refine And.intro (fun z => absurd ((nI_leI (a := 2) (b := 1) (by omega) (by omega)).mp z) (by omega)) (fun _ => ?_)
      refine call0 (c_within) rfl rfl ?_
      rintro r h' ⟨rfl, rfl⟩
      refine br_b (fun w => ?_) (fun w => ?_)
      · have w : ¬ dg b n (p + 1) = true := fun z => w ((aV_dg hb').mpr z)
        refine e57 (C12 := Bz) h3 (by omega) (by omega) (fun z => absurd z w) (fun _ => ?_)
        unfold nmR
        rw [if_pos d0, if_neg w]
      · have w := (aV_dg hb').mp w
        have pl := dg_lt w
        refine call0 (c_X6_skip_P (n := n) (q := p + 1 + 1) (b := b) hn (by omega) (nI_1 (p + 1)) hb) rfl rfl ?_
        rintro r h' ⟨rfl, rfl⟩
        exact ⟨0, by omega, 2, p + 2, 10 * (hr b n p - 48) + (hr b n (p + 1) - 48), rfl, by omega, rfl, by omega, Or.inr (Or.inr ⟨rfl, d0, w, rfl⟩), by rw [← dig_k (v := hr b n p - 48) w] <;> rfl, rfl, rfl⟩
    · have g0 := dg_t.mp d0
      have g1 := dg_t.mp d1
      refine And.intro (fun _ => ?_) (fun z => absurd ((nI_leI (a := 2) (b := 2) (by omega) (by omega)).mpr (by omega)) z)
      refine e57 (C12 := Bz) h3 (by omega) (by omega) (fun w => ?_) (fun w => ?_)
      · unfold nmR
        rw [if_pos d0, if_pos d1, if_pos w]
      · unfold nmR
        rw [if_pos d0, if_pos d1, if_neg w]
theorem lim_n {m ms : Nat} (h : ms + 1 = m) (hm : m ≤ 1000) : ∀ v, v ≤ 99 → (nI v ≤ nI ms ↔ v < m) := fun v hv => by
  rw [nI_leI (by omega) (by omega)]
  omega

