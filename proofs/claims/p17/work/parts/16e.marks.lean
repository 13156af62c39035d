/-! ===== marks, exactly ===== -/
/-- the fewest for a value over the first k stamps; B: none -/
def fwK (B : Nat) (o g : Nat → Nat) (v : Nat) : Nat → Nat
  | 0 => B
  | k + 1 => if o k ≤ v then (if g (v - o k) + 1 < fwK B o g v k then g (v - o k) + 1 else fwK B o g v k) else fwK B o g v k
def fwS (B : Nat) (o : Nat → Nat) (n : Nat) (g : Nat → Nat) (m : Nat) : Prop := g 0 = 0 ∧ ∀ v, 1 ≤ v → v < m → g v = fwK B o g v n
theorem fwK_congr {B : Nat} {o g g' : Nat → Nat} {v : Nat} : ∀ {k : Nat}, (∀ i, i < k → 1 ≤ o i) → (∀ u, u < v → g u = g' u) → fwK B o g v k = fwK B o g' v k
  | 0, _, _ => rfl
  | k + 1, ho, hg => by
    unfold fwK
    rw [fwK_congr (k := k) (fun i hi => ho i (by omega)) hg]
    have h1 := ho k (by omega)
    by_cases q : o k ≤ v
    · rw [if_pos q, if_pos q, hg (v - o k) (by omega)]
    · rw [if_neg q, if_neg q]
theorem fwK_le {B : Nat} {o g : Nat → Nat} {v : Nat} : ∀ {k : Nat}, fwK B o g v k ≤ B
  | 0 => Nat.le_refl _
  | k + 1 => by
    have h := fwK_le (B := B) (o := o) (g := g) (v := v) (k := k)
    unfold fwK
    split
    · split <;> omega
    · exact h
theorem fwS_le {B : Nat} {o g : Nat → Nat} {n m u : Nat} (h : fwS B o n g m) (hu : u < m) : g u ≤ B := by
  by_cases q : u = 0
  · subst q; rw [h.1]; omega
  · rw [h.2 u (by omega) hu]; exact fwK_le
theorem fwS_up {B : Nat} {o g : Nat → Nat} {n v : Nat} (ho : ∀ i, i < n → 1 ≤ o i) (hv : 1 ≤ v) (h : fwS B o n g v) : fwS B o n (updN g v (fwK B o g v n)) (v + 1) := by
  have ag : ∀ w, w ≤ v → fwK B o g w n = fwK B o (updN g v (fwK B o g v n)) w n := fun w hw => fwK_congr ho (fun u hu => (updN_n (by omega)).symm)
  refine ⟨by rw [updN_n (by omega)]; exact h.1, fun w h1 h2 => ?_⟩
  by_cases q : w = v
  · subst q
    rw [updN_s, ← ag w (by omega)]
  · rw [updN_n q, ← ag w (by omega)]
    exact h.2 w h1 (by omega)
theorem fw_eq {o g g' : Nat → Nat} {n : Nat} (ho : ∀ i, i < n → 1 ≤ o i) (h : fwS 1000 o n g 601) (h' : fwS 1000000 o n g' 601) : ∀ v, v ≤ 600 → (g v = g' v ∧ g v ≤ v) ∨ (g v = 1000 ∧ g' v = 1000000) := by
  intro v
  induction v using Nat.strongRecOn with
  | _ v ih =>
    intro hv
    by_cases q : v = 0
    · subst q; rw [h.1, h'.1]; exact Or.inl ⟨rfl, Nat.le_refl _⟩
    · rw [h.2 v (by omega) (by omega), h'.2 v (by omega) (by omega)]
      have key : ∀ k, k ≤ n → (fwK 1000 o g v k = fwK 1000000 o g' v k ∧ fwK 1000 o g v k ≤ v) ∨ (fwK 1000 o g v k = 1000 ∧ fwK 1000000 o g' v k = 1000000) := by
        intro k
        induction k with
        | zero => intro _; exact Or.inr ⟨rfl, rfl⟩
        | succ k ihk =>
          intro hk
          have a := ihk (by omega)
          have b := ho k (by omega)
          unfold fwK
          by_cases q : o k ≤ v
          · rw [if_pos q, if_pos q]
            have c := ih (v - o k) (by omega) (by omega)
            split <;> split <;> omega
          · rw [if_neg q, if_neg q]
            exact a
      exact key n (Nat.le_refl _)
abbrev bad5 (o : Nat → Nat) (n : Nat) : Prop := ∃ i, i < n ∧ ¬ (1 ≤ o i ∧ o i ≤ 100)
abbrev good5 (o : Nat → Nat) (n : Nat) : Prop := ∀ i, i < n → 1 ≤ o i ∧ o i ≤ 100
/-- what marks answers; what franked does -/
def mkS (B : Nat) (o : Nat → Nat) (n k : Nat) (y : Int32) : Prop := (y = -2 ∧ bad5 o n) ∨ (good5 o n ∧ ∃ g, fwS B o n g 601 ∧ ∃ v, v ≤ 600 ∧ y = nI v ∧ (∀ u, 1 ≤ u → u ≤ v → g u ≤ k) ∧ (v = 600 ∨ k < g (v + 1)))
def frS (B : Nat) (o : Nat → Nat) (n v : Nat) (y : Int32) : Prop := (y = -2 ∧ bad5 o n) ∨ (good5 o n ∧ ∃ g, fwS B o n g 601 ∧ ((g v < B ∧ y = nI (g v)) ∨ (B ≤ g v ∧ y = -3)))
theorem mkS_eq {o : Nat → Nat} {n k : Nat} {y y' : Int32} (hk : k ≤ 6) (h : mkS 1000 o n k y) (h' : mkS 1000000 o n k y') : y = y' := by
  rcases h with ⟨rfl, i, hi, hb⟩ | ⟨hg, g, e, v, v1, rfl, v2, v3⟩
  · rcases h' with ⟨rfl, _⟩ | ⟨hg, _⟩
    · rfl
    · exact absurd (hg i hi) hb
  · rcases h' with ⟨rfl, i, hi, hb⟩ | ⟨_, g', e', v', w1, rfl, w2, w3⟩
    · exact absurd (hg i hi) hb
    · have q := fw_eq (fun i hi => (hg i hi).1) e e'
      have : v = v' := by
        rcases Nat.lt_trichotomy v v' with z | z | z
        · have a := w2 (v + 1) (by omega) (by omega)
          have b := q (v + 1) (by omega)
          omega
        · exact z
        · have a := v2 (v' + 1) (by omega) (by omega)
          have b := q (v' + 1) (by omega)
          omega
      rw [this]
theorem frS_eq {o : Nat → Nat} {n v : Nat} {y y' : Int32} (hv : v ≤ 600) (h : frS 1000 o n v y) (h' : frS 1000000 o n v y') : y = y' := by
  rcases h with ⟨rfl, i, hi, hb⟩ | ⟨hg, g, e, h⟩
  · rcases h' with ⟨rfl, _⟩ | ⟨hg, _⟩
    · rfl
    · exact absurd (hg i hi) hb
  · rcases h' with ⟨rfl, i, hi, hb⟩ | ⟨_, g', e', h'⟩
    · exact absurd (hg i hi) hb
    · have q := fw_eq (fun i hi => (hg i hi).1) e e' v hv
      rcases h with ⟨a, rfl⟩ | ⟨a, rfl⟩ <;> rcases h' with ⟨b, rfl⟩ | ⟨b, rfl⟩
      · rw [show g v = g' v by omega]
      · omega
      · omega
      · rfl
theorem nI_bt {a b k : Nat} (ha : a < 1000) (hb : b < 1000) (hk : k < 1000) : (nI a ≤ nI k ∧ nI k ≤ nI b) ↔ (a ≤ k ∧ k ≤ b) := by
  rw [nI_leI (by omega) (by omega), nI_leI (by omega) (by omega)]
theorem sub_lt {a b : Nat} (h : a < b) (hb : b < 100000) : ¬ (0 : Int32) ≤ f_sub (nI a) (nI b) := by
  intro z
  have z := Int32.le_iff_toInt_le.mp z
  have e : (f_sub (nI a) (nI b)).toInt = (a : Int) - b := by
    unfold f_sub
    rw [Int32.toInt_sub, nI_toInt (by omega), nI_toInt (by omega)]
    exact bm (by omega) (by omega)
  rw [e] at z
  have z0 : (0 : Int32).toInt = 0 := rfl
  omega
theorem fsub_n {a b : Nat} (h : b ≤ a) : f_sub (nI a) (nI b) = nI (a - b) := nI_sub h
set_option maxRecDepth 100000 in
theorem c_X8_reckonStamps {l : Launch} {Rid_bits Rid_grains : Int32} {Rid_fewest Rid_got Tape_bytes : Nat → Int32}  {o : Nat → Nat} {n s : Nat} (hn : n ≤ 5) (hs : s ≤ 260) (hns : n ≤ s) (hb : ∀ i, i < n → o i ≤ 255 ∧ Tape_bytes i = nI (o i)) (h0 : Rid_fewest 0 = 0) : MetP l 2 yX8_reckonStamps cX8_reckonStamps 6 (some .boolean) 0 0 [.inr (some (.inl 0)), .inl (nI n)] [.inr (7, [.inr (some (.inl 3)), .inr (some (.inl 1)), .inr (some (.inl 2)), .inl Rid_bits, .inl Rid_grains]), .inl (0, 601, Rid_fewest), .inl (0, 6, Rid_got), .inr (9, [.inr (some (.inl 4)), .inl ((nI s))]), .inl (0, 260, Tape_bytes)] (fun r h' => ∃ (fw : Nat → Int32) (b : Int32), r = some (.inl b) ∧ fw 0 = 0 ∧ ((b = 0 ∧ bad5 o n) ∨ (b = 1 ∧ good5 o n ∧ ∃ g, fwS 1000 o n g 601 ∧ ∀ u, u ≤ 600 → fw u = nI (g u))) ∧ h' = [.inr (7, [.inr (some (.inl 3)), .inr (some (.inl 1)), .inr (some (.inl 2)), .inl Rid_bits, .inl Rid_grains]), .inl (0, 601, fw), .inl (0, 6, Rid_got), .inr (9, [.inr (some (.inl 4)), .inl ((nI s))]), .inl (0, 260, Tape_bytes)]) := by
  refine m_X8_reckonStamps (fun μ L st h => ∃ (i : Nat) (z3 z4 z5 : Option PV), μ = 100000 + (n - i) ∧ i ≤ n ∧ good5 o i ∧ L = [some (.inr (some (.inl 0))), some (.inl (nI n)), some (.inl (nI i)), z3, z4, z5] ∧ st = [] ∧ h = [.inr (7, [.inr (some (.inl 3)), .inr (some (.inl 1)), .inr (some (.inl 2)), .inl Rid_bits, .inl Rid_grains]), .inl (0, 601, Rid_fewest), .inl (0, 6, Rid_got), .inr (9, [.inr (some (.inl 4)), .inl ((nI s))]), .inl (0, 260, Tape_bytes)]) (fun μ L st h => ∃ (v : Nat) (g : Nat → Nat) (fw : Nat → Int32) (z3 z4 z5 : Option PV), μ = 10 * (601 - v) + 8 ∧ 1 ≤ v ∧ v ≤ 601 ∧ good5 o n ∧ fwS 1000 o n g v ∧ (∀ u, u < v → fw u = nI (g u)) ∧ L = [some (.inr (some (.inl 0))), some (.inl (nI n)), some (.inl (nI v)), z3, z4, z5] ∧ st = [] ∧ h = [.inr (7, [.inr (some (.inl 3)), .inr (some (.inl 1)), .inr (some (.inl 2)), .inl Rid_bits, .inl Rid_grains]), .inl (0, 601, fw), .inl (0, 6, Rid_got), .inr (9, [.inr (some (.inl 4)), .inl ((nI s))]), .inl (0, 260, Tape_bytes)]) (fun μ L st h => ∃ (v i : Nat) (g : Nat → Nat) (fw : Nat → Int32) (z5 : Option PV), μ = 10 * (601 - v) + (n - i) ∧ 1 ≤ v ∧ v ≤ 600 ∧ i ≤ n ∧ good5 o n ∧ fwS 1000 o n g v ∧ (∀ u, u < v → fw u = nI (g u)) ∧ L = [some (.inr (some (.inl 0))), some (.inl (nI n)), some (.inl (nI v)), some (.inl (nI (fwK 1000 o g v i))), some (.inl (nI i)), z5] ∧ st = [] ∧ h = [.inr (7, [.inr (some (.inl 3)), .inr (some (.inl 1)), .inr (some (.inl 2)), .inl Rid_bits, .inl Rid_grains]), .inl (0, 601, fw), .inl (0, 6, Rid_got), .inr (9, [.inr (some (.inl 4)), .inl ((nI s))]), .inl (0, 260, Tape_bytes)]) (Nat.le_of_ble_eq_true rfl) ?_ ?_ ?_ ?_
  · exact ⟨_, 0, _, _, _, rfl, by omega, fun i hi => absurd hi (Nat.not_lt_zero _), rfl, rfl, rfl⟩
  · rintro μ L st h ⟨i, z3, z4, z5, hμ, h1, h2, rfl, rfl, rfl⟩
    refine And.intro (fun q1 => ?_) (fun q1 => ?_)
    · have q1 := (nI_leI (by omega) (by omega)).mp q1
      obtain rfl : i = n := by omega
      exact ⟨10 * (601 - 1) + 8, by omega, 1, fun _ => 0, Rid_fewest, _, _, _, rfl, by omega, by omega, h2, ⟨rfl, fun v a b => by omega⟩, fun u hu => by rw [show u = 0 by omega]; exact h0, rfl, rfl, rfl⟩
    · have q1 : i < n := Nat.lt_of_not_le fun z => q1 ((nI_leI (by omega) (by omega)).mpr z)
      obtain ⟨o1, o2⟩ := hb i q1
      refine call0 (c_X10_at (s := s) (k := i) hs (by omega)) rfl rfl ?_
      rintro r h' ⟨rfl, rfl⟩
      rw [o2]
      refine call0 (c_within) rfl rfl ?_
      rintro r h' ⟨rfl, rfl⟩
      refine br_b (fun w => ?_) (fun w => ?_)
      · exact And.intro (Or.inl rfl) ⟨Rid_fewest, 0, rfl, h0, Or.inl ⟨rfl, i, q1, fun z => w ((nI_bt (a := 1) (b := 100) (by omega) (by omega) (by omega)).mpr z)⟩, rfl⟩
      · have w := (nI_bt (a := 1) (b := 100) (by omega) (by omega) (by omega)).mp w
        refine ⟨100000 + (n - (i + 1)), by omega, i + 1, z3, z4, z5, rfl, by omega, fun j hj => ?_, by rw [← nI_1 i] <;> rfl, rfl, rfl⟩
        by_cases e : j = i
        · subst e; exact w
        · exact h2 j (by omega)
  · rintro μ L st h ⟨v, g, fw, z3, z4, z5, hμ, h1, h2, h3, h4, h5, rfl, rfl, rfl⟩
    refine And.intro (fun q1 => ?_) (fun q1 => ?_)
    · have q1 := (nI_ltI (a := 600) (by omega) (by omega)).mp q1
      obtain rfl : v = 601 := by omega
      exact And.intro (Or.inr rfl) ⟨fw, 1, rfl, by rw [h5 0 (by omega), h4.1]; rfl, Or.inr ⟨rfl, h3, g, h4, fun u hu => h5 u (by omega)⟩, rfl⟩
    · have q1 : v ≤ 600 := Nat.le_of_not_lt fun z => q1 ((nI_ltI (a := 600) (by omega) (by omega)).mpr z)
      exact ⟨10 * (601 - v) + n, by omega, v, 0, g, fw, z5, rfl, h1, q1, by omega, h3, h4, h5, rfl, rfl, rfl⟩
  · rintro μ L st h ⟨v, i, g, fw, z5, hμ, h1, h2, h3, h4, h5, h6, rfl, rfl, rfl⟩
    have le := fwK_le (B := 1000) (o := o) (g := g) (v := v) (k := i)
    refine And.intro (fun q1 => ?_) (fun q1 => ?_)
    · have q1 := (nI_leI (by omega) (by omega)).mp q1
      obtain rfl : i = n := by omega
      refine And.intro (vp_in_nI (n := v) (by omega) (by omega)) ?_
      rw [nI_clamp (by omega)]
      refine ⟨10 * (601 - (v + 1)) + 8, by omega, v + 1, updN g v (fwK 1000 o g v i), upd fw v (nI (fwK 1000 o g v i)), _, _, z5, rfl, by omega, by omega, h4, fwS_up (fun j hj => (h4 j hj).1) h1 h5, fun u hu => ?_, by rw [← nI_1 v] <;> rfl, rfl, rfl⟩
      by_cases e : u = v
      · subst e; rw [upd_sI, updN_s]
      · rw [upd_nI e, updN_n e]; exact h6 u (by omega)
    · have q1 : i < n := Nat.lt_of_not_le fun z => q1 ((nI_leI (by omega) (by omega)).mpr z)
      obtain ⟨o1, o2⟩ := hb i q1
      have o3 := h4 i q1
      refine call0 (c_X10_at (s := s) (k := i) hs (by omega)) rfl rfl ?_
      rintro r h' ⟨rfl, rfl⟩
      rw [o2]
      refine call0 (c_within) rfl rfl ?_
      rintro r h' ⟨rfl, rfl⟩
      have e1 : f_sub (nI v) 1 = nI (v - 1) := fsub_n (a := v) (b := 1) (by omega)
      by_cases q : o i ≤ v
      · rw [fsub_n q, e1]
        refine br_b (fun w => absurd ((nI_bt (a := 0) (b := v - 1) (by omega) (by omega) (by omega)).mpr ⟨by omega, by omega⟩) w) (fun _ => ?_)
        refine And.intro (vp_in_nI (n := v - o i) (by omega) (by omega)) ?_
        rw [nI_clamp (by omega), h6 (v - o i) (by omega)]
        have gl := fwS_le h5 (u := v - o i) (by omega)
        refine And.intro rfl ?_
        refine ⟨10 * (601 - v) + (n - (i + 1)), by omega, v, i + 1, g, fw, some (.inl (nI (v - o i))), rfl, h1, h2, by omega, h4, h5, h6, ?_, rfl, rfl⟩
        have em : f_min (nI (fwK 1000 o g v i)) (f_add (nI (g (v - o i))) 1) = nI (fwK 1000 o g v (i + 1)) := by
          have ea : f_add (nI (g (v - o i))) 1 = nI (g (v - o i) + 1) := nI_1 _
          rw [ea]
          unfold f_min
          show _ = nI (if o i ≤ v then (if g (v - o i) + 1 < fwK 1000 o g v i then g (v - o i) + 1 else fwK 1000 o g v i) else fwK 1000 o g v i)
          rw [if_pos q]
          by_cases w : g (v - o i) + 1 < fwK 1000 o g v i
          · rw [if_pos w, if_pos ((nI_ltI (by omega) (by omega)).mpr w)]
          · rw [if_neg w, if_neg (fun z => w ((nI_ltI (by omega) (by omega)).mp z))]
        rw [← em, ← nI_1 i] <;> rfl
      · refine br_b (fun w => ?_) (fun w => absurd w.1 (sub_lt (by omega) (by omega)))
        refine ⟨10 * (601 - v) + (n - (i + 1)), by omega, v, i + 1, g, fw, some (.inl (f_sub (nI v) (nI (o i)))), rfl, h1, h2, by omega, h4, h5, h6, ?_, rfl, rfl⟩
        have em : fwK 1000 o g v (i + 1) = fwK 1000 o g v i := by
          show (if o i ≤ v then _ else _) = _
          rw [if_neg q]
        rw [em, ← nI_1 i] <;> rfl
set_option maxRecDepth 100000 in
theorem c_X8_frankedUpTo {l : Launch} {Rid_tape : List (Option Nat)} {Rid_bits Rid_grains : Int32} {Rid_fewest Rid_got : Nat → Int32}  {g : Nat → Nat} {k : Nat} (hk : k ≤ 6) (hg : ∀ u, u ≤ 600 → g u ≤ 1000 ∧ Rid_fewest u = nI (g u)) : MetP l 0 yX8_frankedUpTo cX8_frankedUpTo 3 (some .int) 0 0 [.inr (some (.inl 0)), .inl (nI k)] [.inr (7, [.inr (some (.inr Rid_tape)), .inr (some (.inl 1)), .inr (some (.inl 2)), .inl Rid_bits, .inl Rid_grains]), .inl (0, 601, Rid_fewest), .inl (0, 6, Rid_got)] (fun r h' => (∃ v, v ≤ 600 ∧ r = some (.inl (nI v)) ∧ (∀ u, 1 ≤ u → u ≤ v → g u ≤ k) ∧ (v = 600 ∨ k < g (v + 1))) ∧ h' = [.inr (7, [.inr (some (.inr Rid_tape)), .inr (some (.inl 1)), .inr (some (.inl 2)), .inl Rid_bits, .inl Rid_grains]), .inl (0, 601, Rid_fewest), .inl (0, 6, Rid_got)]) := by
  refine m_X8_frankedUpTo (fun μ L st h => ∃ v : Nat, μ = 601 - v ∧ 1 ≤ v ∧ v ≤ 601 ∧ (∀ u, 1 ≤ u → u < v → g u ≤ k) ∧ L = [some (.inr (some (.inl 0))), some (.inl (nI k)), some (.inl (nI v))] ∧ st = [] ∧ h = [.inr (7, [.inr (some (.inr Rid_tape)), .inr (some (.inl 1)), .inr (some (.inl 2)), .inl Rid_bits, .inl Rid_grains]), .inl (0, 601, Rid_fewest), .inl (0, 6, Rid_got)]) (Nat.le_of_ble_eq_true rfl) ?_ ?_
  · exact ⟨_, 1, rfl, by omega, by omega, fun u a b => by omega, rfl, rfl, rfl⟩
  · rintro μ L st h ⟨v, hμ, h1, h2, h3, rfl, rfl, rfl⟩
    refine And.intro (fun q1 => ?_) (fun q1 => ?_)
    · have q1 := (nI_ltI (a := 600) (by omega) (by omega)).mp q1
      exact ⟨⟨600, by omega, rfl, fun u a b => h3 u a (by omega), Or.inl rfl⟩, rfl⟩
    · have q1 : v ≤ 600 := Nat.le_of_not_lt fun z => q1 ((nI_ltI (a := 600) (by omega) (by omega)).mpr z)
      obtain ⟨g1, g2⟩ := hg v q1
      refine And.intro (vp_in_nI (n := v) (by omega) (by omega)) ?_
      rw [nI_clamp (by omega), g2]
      refine And.intro (fun w => ?_) (fun w => ?_)
      · have w := (nI_leI (by omega) (by omega)).mp w
        refine ⟨601 - (v + 1), by omega, v + 1, rfl, by omega, by omega, fun u a b => ?_, by rw [← nI_1 v] <;> rfl, rfl, rfl⟩
        by_cases e : u = v
        · subst e; exact w
        · exact h3 u a (by omega)
      · have w : k < g v := Nat.lt_of_not_le fun z => w ((nI_leI (by omega) (by omega)).mpr z)
        have e1 : f_sub (nI v) 1 = nI (v - 1) := fsub_n (a := v) (b := 1) (by omega)
        exact ⟨⟨v - 1, by omega, congrArg (fun x : Int32 => some (Sum.inl x : PV)) e1, fun u a b => h3 u a (by omega), Or.inr (by rw [show v - 1 + 1 = v by omega]; exact w)⟩, rfl⟩
set_option maxRecDepth 100000 in
theorem c_X8_stampsFor {l : Launch} {Rid_tape : List (Option Nat)} {Rid_bits Rid_grains : Int32} {Rid_fewest Rid_got : Nat → Int32}  {g : Nat → Nat} {v : Nat} (hv : v ≤ 600) (hg : g v ≤ 1000 ∧ Rid_fewest v = nI (g v)) : MetP l 1 yX8_stampsFor cX8_stampsFor 3 (some .int) 0 0 [.inr (some (.inl 0)), .inl (nI v)] [.inr (7, [.inr (some (.inr Rid_tape)), .inr (some (.inl 1)), .inr (some (.inl 2)), .inl Rid_bits, .inl Rid_grains]), .inl (0, 601, Rid_fewest), .inl (0, 6, Rid_got)] (fun r h' => (∃ y, r = some (.inl y) ∧ ((g v < 1000 ∧ y = nI (g v)) ∨ (1000 ≤ g v ∧ y = -3))) ∧ h' = [.inr (7, [.inr (some (.inr Rid_tape)), .inr (some (.inl 1)), .inr (some (.inl 2)), .inl Rid_bits, .inl Rid_grains]), .inl (0, 601, Rid_fewest), .inl (0, 6, Rid_got)]) := by
  refine m_X8_stampsFor (Nat.le_of_ble_eq_true rfl) ?_
  refine call0 (c_within) rfl rfl ?_
  rintro r h' ⟨rfl, rfl⟩
  refine br_b (fun w => absurd ((nI_bt (a := 0) (b := 600) (by omega) (by omega) (by omega)).mpr ⟨by omega, by omega⟩) w) (fun _ => ?_)
  refine And.intro (vp_in_nI (n := v) (by omega) (by omega)) ?_
  rw [nI_clamp (by omega), hg.2]
  refine And.intro (fun w => ?_) (fun w => ?_)
  · have w := (nI_leI (a := 1000) (by omega) (by omega)).mp w
    refine And.intro (fun _ => ?_) (fun z => absurd rfl z)
    exact ⟨⟨-3, rfl, Or.inr ⟨w, rfl⟩⟩, rfl⟩
  · have w : g v < 1000 := Nat.lt_of_not_le fun z => w ((nI_leI (a := 1000) (by omega) (by omega)).mpr z)
    refine And.intro (fun z => absurd z (by show ¬ ((_ : Int32) = _); decide)) (fun _ => ?_)
    refine And.intro (vp_in_nI (n := v) (by omega) (by omega)) ?_
    rw [nI_clamp (by omega), hg.2]
    exact ⟨⟨_, rfl, Or.inl ⟨w, rfl⟩⟩, rfl⟩
set_option maxRecDepth 100000 in
theorem c_X11_marks {l : Launch} {HS_republic HS_now HS_kept HS_trial HS_clerk HS_crew HS_sheetReader HS_postReader HS_lawReader HS_seen HS_rules HS_spareRules : List (Option Nat)} {HS_wasKept Rid_bits Rid_grains : Int32} {Tape_bytes Rid_fewest Rid_got : Nat → Int32}  {o : Nat → Nat} {n s k : Nat} (hn1 : 1 ≤ n) (hn : n ≤ 5) (hk1 : 1 ≤ k) (hk : k ≤ 6) (hs : s ≤ 260) (hns : n ≤ s) (hb : ∀ i, i < n → o i ≤ 255 ∧ Tape_bytes i = nI (o i)) (h0 : Rid_fewest 0 = 0) : MetP l 3 yX11_marks cX11_marks 4 (some .int) 0 0 [.inr (some (.inl 0)), .inl (nI n), .inl (nI k)] [.inr (10, [.inr (some (.inl 1)), .inr (some (.inr HS_republic)), .inr (some (.inr HS_now)), .inr (some (.inr HS_kept)), .inr (some (.inr HS_trial)), .inr (some (.inr HS_clerk)), .inr (some (.inr HS_crew)), .inr (some (.inl 3)), .inr (some (.inr HS_sheetReader)), .inr (some (.inr HS_postReader)), .inr (some (.inr HS_lawReader)), .inr (some (.inr HS_seen)), .inr (some (.inr HS_rules)), .inr (some (.inr HS_spareRules)), .inl HS_wasKept]), .inr (9, [.inr (some (.inl 2)), .inl ((nI s))]), .inl (0, 260, Tape_bytes), .inr (7, [.inr (some (.inl 1)), .inr (some (.inl 4)), .inr (some (.inl 5)), .inl Rid_bits, .inl Rid_grains]), .inl (0, 601, Rid_fewest), .inl (0, 6, Rid_got)] (fun r h' => ∃ (fw : Nat → Int32) (y : Int32), r = some (.inl y) ∧ fw 0 = 0 ∧ mkS 1000 o n k y ∧ h' = [.inr (10, [.inr (some (.inl 1)), .inr (some (.inr HS_republic)), .inr (some (.inr HS_now)), .inr (some (.inr HS_kept)), .inr (some (.inr HS_trial)), .inr (some (.inr HS_clerk)), .inr (some (.inr HS_crew)), .inr (some (.inl 3)), .inr (some (.inr HS_sheetReader)), .inr (some (.inr HS_postReader)), .inr (some (.inr HS_lawReader)), .inr (some (.inr HS_seen)), .inr (some (.inr HS_rules)), .inr (some (.inr HS_spareRules)), .inl HS_wasKept]), .inr (9, [.inr (some (.inl 2)), .inl 0]), .inl (0, 260, Tape_bytes), .inr (7, [.inr (some (.inl 1)), .inr (some (.inl 4)), .inr (some (.inl 5)), .inl Rid_bits, .inl Rid_grains]), .inl (0, 601, fw), .inl (0, 6, Rid_got)]) := by
  refine m_X11_marks (Nat.le_of_ble_eq_true rfl) ?_
  refine call0 (c_within) rfl rfl ?_
  rintro r h' ⟨rfl, rfl⟩
  refine br_b (fun w => absurd ((nI_bt (a := 1) (b := 6) (by omega) (by omega) (by omega)).mpr ⟨hk1, hk⟩) w) (fun _ => ?_)
  refine call0 (c_canGive) rfl rfl ?_
  rintro r h' ⟨rfl, rfl⟩
  refine br_b (fun w => absurd ⟨(nI_bt (a := 1) (b := 5) (by omega) (by omega) (by omega)).mpr ⟨hn1, hn⟩, (nI_leI (by omega) (by omega)).mpr hns⟩ w) (fun _ => ?_)
  refine call0 (c_X8_reckonStamps (o := o) (n := n) (s := s) hn hs hns hb h0) rfl rfl ?_
  rintro r h' ⟨fw, b, rfl, f0, hp, rfl⟩
  refine call0 (c_X10_empty) rfl rfl ?_
  rintro r h' ⟨rfl, rfl⟩
  rcases hp with ⟨rfl, hbad⟩ | ⟨rfl, hgood, g, hg, hfw⟩
  · refine And.intro (fun _ => ?_) (fun z => absurd rfl z)
    exact ⟨fw, -2, rfl, f0, Or.inl ⟨rfl, hbad⟩, rfl⟩
  · refine And.intro (fun z => absurd z (by show ¬ ((_ : Int32) = _); decide)) (fun _ => ?_)
    refine call0 (c_X8_frankedUpTo (g := g) (k := k) hk (fun u hu => ⟨fwS_le hg (by omega), hfw u hu⟩)) rfl rfl ?_
    rintro r h' ⟨⟨v, v1, rfl, v2, v3⟩, rfl⟩
    exact ⟨fw, nI v, rfl, f0, Or.inr ⟨hgood, g, hg, v, v1, rfl, v2, v3⟩, rfl⟩
set_option maxRecDepth 100000 in
theorem c_X11_franked {l : Launch} {HS_republic HS_now HS_kept HS_trial HS_clerk HS_crew HS_sheetReader HS_postReader HS_lawReader HS_seen HS_rules HS_spareRules : List (Option Nat)} {HS_wasKept Rid_bits Rid_grains : Int32} {Tape_bytes Rid_fewest Rid_got : Nat → Int32}  {o : Nat → Nat} {n s v : Nat} (hn1 : 1 ≤ n) (hn : n ≤ 5) (hv1 : 1 ≤ v) (hv : v ≤ 600) (hs : s ≤ 260) (hns : n ≤ s) (hb : ∀ i, i < n → o i ≤ 255 ∧ Tape_bytes i = nI (o i)) (h0 : Rid_fewest 0 = 0) : MetP l 3 yX11_franked cX11_franked 4 (some .int) 0 0 [.inr (some (.inl 0)), .inl (nI n), .inl (nI v)] [.inr (10, [.inr (some (.inl 1)), .inr (some (.inr HS_republic)), .inr (some (.inr HS_now)), .inr (some (.inr HS_kept)), .inr (some (.inr HS_trial)), .inr (some (.inr HS_clerk)), .inr (some (.inr HS_crew)), .inr (some (.inl 3)), .inr (some (.inr HS_sheetReader)), .inr (some (.inr HS_postReader)), .inr (some (.inr HS_lawReader)), .inr (some (.inr HS_seen)), .inr (some (.inr HS_rules)), .inr (some (.inr HS_spareRules)), .inl HS_wasKept]), .inr (9, [.inr (some (.inl 2)), .inl ((nI s))]), .inl (0, 260, Tape_bytes), .inr (7, [.inr (some (.inl 1)), .inr (some (.inl 4)), .inr (some (.inl 5)), .inl Rid_bits, .inl Rid_grains]), .inl (0, 601, Rid_fewest), .inl (0, 6, Rid_got)] (fun r h' => ∃ (fw : Nat → Int32) (y : Int32), r = some (.inl y) ∧ fw 0 = 0 ∧ frS 1000 o n v y ∧ h' = [.inr (10, [.inr (some (.inl 1)), .inr (some (.inr HS_republic)), .inr (some (.inr HS_now)), .inr (some (.inr HS_kept)), .inr (some (.inr HS_trial)), .inr (some (.inr HS_clerk)), .inr (some (.inr HS_crew)), .inr (some (.inl 3)), .inr (some (.inr HS_sheetReader)), .inr (some (.inr HS_postReader)), .inr (some (.inr HS_lawReader)), .inr (some (.inr HS_seen)), .inr (some (.inr HS_rules)), .inr (some (.inr HS_spareRules)), .inl HS_wasKept]), .inr (9, [.inr (some (.inl 2)), .inl 0]), .inl (0, 260, Tape_bytes), .inr (7, [.inr (some (.inl 1)), .inr (some (.inl 4)), .inr (some (.inl 5)), .inl Rid_bits, .inl Rid_grains]), .inl (0, 601, fw), .inl (0, 6, Rid_got)]) := by
  refine m_X11_franked (Nat.le_of_ble_eq_true rfl) ?_
  refine call0 (c_within) rfl rfl ?_
  rintro r h' ⟨rfl, rfl⟩
  refine br_b (fun w => absurd ((nI_bt (a := 1) (b := 600) (by omega) (by omega) (by omega)).mpr ⟨hv1, hv⟩) w) (fun _ => ?_)
  refine call0 (c_canGive) rfl rfl ?_
  rintro r h' ⟨rfl, rfl⟩
  refine br_b (fun w => absurd ⟨(nI_bt (a := 1) (b := 5) (by omega) (by omega) (by omega)).mpr ⟨hn1, hn⟩, (nI_leI (by omega) (by omega)).mpr hns⟩ w) (fun _ => ?_)
  refine call0 (c_X8_reckonStamps (o := o) (n := n) (s := s) hn hs hns hb h0) rfl rfl ?_
  rintro r h' ⟨fw, b, rfl, f0, hp, rfl⟩
  refine call0 (c_X10_empty) rfl rfl ?_
  rintro r h' ⟨rfl, rfl⟩
  rcases hp with ⟨rfl, hbad⟩ | ⟨rfl, hgood, g, hg, hfw⟩
  · refine And.intro (fun _ => ?_) (fun z => absurd rfl z)
    exact ⟨fw, -2, rfl, f0, Or.inl ⟨rfl, hbad⟩, rfl⟩
  · refine And.intro (fun z => absurd z (by show ¬ ((_ : Int32) = _); decide)) (fun _ => ?_)
    refine call0 (c_X8_stampsFor (g := g) (v := v) hv ⟨fwS_le hg (by omega), hfw v hv⟩) rfl rfl ?_
    rintro r h' ⟨⟨y, rfl, hy⟩, rfl⟩
    exact ⟨fw, y, rfl, f0, Or.inr ⟨hgood, g, hg, hy⟩, rfl⟩

