/-! ===== a post on the class's side ===== -/
set_option maxRecDepth 100000 in
theorem c_X5_readPlace {l : Launch} {PR_fault PR_lines PR_told PR_stamps : Int32} {PR_sign PR_letter PR_number Txt : Nat → Int32}  {b : Nat → Nat} {n p : Nat} (hn : n ≤ 240) (hp : p ≤ n) (hb : txB Txt b n) : MetP l 2 yX5_readPlace cX5_readPlace 3 (some .int) 0 0 [.inr (some (.inl 0))] [.inr (5, [.inr (some (.inl 4)), .inl ((nI n)), .inl ((nI p)), .inl ((aV b n p)), .inl PR_fault, .inr (some (.inl 1)), .inr (some (.inl 2)), .inr (some (.inl 3)), .inl PR_lines, .inl PR_told, .inl PR_stamps]), .inl (0, 20, PR_sign), .inl (0, 20, PR_letter), .inl (0, 20, PR_number), .inl (0, 260, Txt)] (fun r h' => (∃ v q, spR b n p = .inr (v, q) ∧ r = some (.inl (nI v)) ∧ h' = [.inr (5, [.inr (some (.inl 4)), .inl ((nI n)), .inl ((nI q)), .inl ((aV b n q)), .inl PR_fault, .inr (some (.inl 1)), .inr (some (.inl 2)), .inr (some (.inl 3)), .inl PR_lines, .inl PR_told, .inl PR_stamps]), .inl (0, 20, PR_sign), .inl (0, 20, PR_letter), .inl (0, 20, PR_number), .inl (0, 260, Txt)]) ∨ (∃ g a q, spR b n p = .inl (g, a) ∧ q ≤ n ∧ r = some (.inl (-1)) ∧ h' = [.inr (5, [.inr (some (.inl 4)), .inl ((nI n)), .inl ((nI q)), .inl ((aV b n q)), .inl ((ftV g a)), .inr (some (.inl 1)), .inr (some (.inl 2)), .inr (some (.inl 3)), .inl PR_lines, .inl PR_told, .inl PR_stamps]), .inl (0, 20, PR_sign), .inl (0, 20, PR_letter), .inl (0, 20, PR_number), .inl (0, 260, Txt)])) := by
  refine m_X5_readPlace (Nat.le_of_ble_eq_true rfl) ?_
  refine call0 (c_X6_readNumber_P (b := b) (n := n) (p := p) (m := 24) (k := 3) hn hp (lim_n (ms := 23) rfl (by omega)) hb) rfl rfl ?_
  rintro r h' (⟨v, q, e1, rfl, rfl⟩ | ⟨g, a, q, e1, hq, rfl, rfl⟩)
  · have l1 := nmR_le e1
    refine And.intro (fun z => absurd z (n1_k (by omega))) (fun _ => ?_)
    refine call0 (c_X6_reads_P (b := b) (n := n) (p := q) (k := 44) hn (by omega) (by omega) hb) rfl rfl ?_
    rintro r h' (⟨w, rfl, rfl⟩ | ⟨w, rfl, rfl⟩)
    · have pl := hr_lt w (by omega)
      refine And.intro (fun z => absurd z (by show ¬ ((_ : Int32) = _); decide)) (fun _ => ?_)
      refine call0 (c_X6_readNumber_P (b := b) (n := n) (p := q + 1) (m := 16) (k := 3) hn (by omega) (lim_n (ms := 15) rfl (by omega)) hb) rfl rfl ?_
      rintro r h' (⟨y, s, e2, rfl, rfl⟩ | ⟨g, a, s, e2, hs, rfl, rfl⟩)
      · have l2 := nmR_le e2
        refine And.intro (fun z => absurd z (n1_k (by omega))) (fun _ => ?_)
        have ev : f_add (f_mul 24 (nI y)) (nI v) = nI (24 * y + v) := by
          show nI 24 * nI y + nI v = _
          rw [nI_mul, nI_add]
        exact Or.inl ⟨24 * y + v, s, by unfold spR; rw [e1]; dsimp only; rw [if_pos w, e2], by rw [ev], rfl⟩
      · refine And.intro (fun _ => ?_) (fun z => absurd rfl z)
        exact Or.inr ⟨g, a, s, by unfold spR; rw [e1]; dsimp only; rw [if_pos w, e2], hs, rfl, rfl⟩
    · refine And.intro (fun _ => ?_) (fun z => absurd rfl z)
      exact Or.inr ⟨1, q, q, by unfold spR; rw [e1]; dsimp only; rw [if_neg w], by omega, rfl, rfl⟩
  · refine And.intro (fun _ => ?_) (fun z => absurd rfl z)
    exact Or.inr ⟨g, a, q, by unfold spR; rw [e1], hq, rfl, rfl⟩
set_option maxRecDepth 100000 in
theorem c_X5_add {l : Launch} {PR_text : List (Option Nat)} {PR_end PR_at PR_ahead PR_fault PR_told PR_stamps : Int32} {PR_sign PR_letter PR_number : Nat → Int32}  {x y : Int32} {v k : Nat} (hk : k < 20) (hv : v ≤ 1000) : MetP l 0 yX5_add cX5_add 4 (some .boolean) 0 0 [.inr (some (.inl 0)), .inl x, .inl y, .inl (nI v)] [.inr (5, [.inr (some (.inr PR_text)), .inl PR_end, .inl PR_at, .inl PR_ahead, .inl PR_fault, .inr (some (.inl 1)), .inr (some (.inl 2)), .inr (some (.inl 3)), .inl ((nI k)), .inl PR_told, .inl PR_stamps]), .inl (0, 20, PR_sign), .inl (0, 20, PR_letter), .inl (0, 20, PR_number)] (fun r h' => r = some (.inl 1) ∧ h' = [.inr (5, [.inr (some (.inr PR_text)), .inl PR_end, .inl PR_at, .inl PR_ahead, .inl PR_fault, .inr (some (.inl 1)), .inr (some (.inl 2)), .inr (some (.inl 3)), .inl ((nI (k + 1))), .inl PR_told, .inl PR_stamps]), .inl (0, 20, (upd PR_sign k x)), .inl (0, 20, (upd PR_letter k y)), .inl (0, 20, (upd PR_number k (nI v)))]) := by
  refine m_X5_add (Nat.le_of_ble_eq_true rfl) ?_
  refine And.intro (fun z => absurd z (n1_k (by omega))) (fun _ => ?_)
  refine And.intro (fun _ => ?_) (fun z => absurd ((nI_ltI (b := 20) (by omega) (by omega)).mpr hk) z)
  refine And.intro (vp_in_nI (n := k) (by omega) (by omega)) ?_
  refine And.intro (vp_in_nI (n := k) (by omega) (by omega)) ?_
  refine And.intro (vp_in_nI (n := k) (by omega) (by omega)) ?_
  rw [nI_clamp (by omega)]
  exact And.intro (Or.inr rfl) ⟨rfl, by rw [← nI_1 k] <;> rfl⟩
theorem n_X5_add {l : Launch} {PR_text : List (Option Nat)} {PR_end PR_at PR_ahead PR_fault PR_lines PR_told PR_stamps : Int32} {PR_sign PR_letter PR_number : Nat → Int32}  {x y : Int32} : MetP l 0 yX5_add cX5_add 4 (some .boolean) 0 0 [.inr (some (.inl 0)), .inl x, .inl y, .inl (-1)] [.inr (5, [.inr (some (.inr PR_text)), .inl PR_end, .inl PR_at, .inl PR_ahead, .inl PR_fault, .inr (some (.inl 1)), .inr (some (.inl 2)), .inr (some (.inl 3)), .inl PR_lines, .inl PR_told, .inl PR_stamps]), .inl (0, 20, PR_sign), .inl (0, 20, PR_letter), .inl (0, 20, PR_number)] (fun r h' => r = some (.inl 0) ∧ h' = [.inr (5, [.inr (some (.inr PR_text)), .inl PR_end, .inl PR_at, .inl PR_ahead, .inl PR_fault, .inr (some (.inl 1)), .inr (some (.inl 2)), .inr (some (.inl 3)), .inl PR_lines, .inl PR_told, .inl PR_stamps]), .inl (0, 20, PR_sign), .inl (0, 20, PR_letter), .inl (0, 20, PR_number)]) := by
  refine m_X5_add (Nat.le_of_ble_eq_true rfl) ?_
  exact And.intro (fun _ => And.intro (Or.inl rfl) ⟨rfl, rfl⟩) (fun z => absurd rfl z)
theorem sb_0 {T l : Nat} (hl : l < 31) : f_and (f_shr (nI T) (nI l)) 1 = 0 ↔ ¬ T.testBit l = true := by
  rw [bit_n hl]
  cases T.testBit l
  · exact ⟨fun _ => by decide, fun _ => rfl⟩
  · exact ⟨fun z => absurd z (by decide), fun z => absurd rfl z⟩
theorem td_or {T l : Nat} (hl : l < 12) : f_or (nI T) (f_shl 1 (nI l)) = nI (T ||| 2 ^ l) := by
  rw [pw_n l (by omega)]
  exact or_k _ _
set_option maxRecDepth 100000 in
theorem c_X5_readOrder {l : Launch} {PR_fault : Int32} {PR_sign PR_letter PR_number Txt : Nat → Int32}  {b : Nat → Nat} {n p c T k : Nat} {X : Int32} (eX : X = nI (hr b n p - 48)) (hn : n ≤ 240) (hp : p < n) (hk : k < 20) (hc : c ≤ 48) (h0 : 48 ≤ hr b n p) (h7 : hr b n p ≤ 55) (hb : txB Txt b n) : MetP l 3 yX5_readOrder cX5_readOrder 5 (some .boolean) 0 0 [.inr (some (.inl 0)), .inl X, .inl (nI p)] [.inr (5, [.inr (some (.inl 4)), .inl ((nI n)), .inl ((nI (p + 1))), .inl ((aV b n (p + 1))), .inl PR_fault, .inr (some (.inl 1)), .inr (some (.inl 2)), .inr (some (.inl 3)), .inl ((nI k)), .inl ((nI T)), .inl ((nI c))]), .inl (0, 20, PR_sign), .inl (0, 20, PR_letter), .inl (0, 20, PR_number), .inl (0, 260, Txt)] (fun r h' => (∃ o q, ltR b n c T p = .inr (o, q) ∧ p < q ∧ q ≤ n ∧ r = some (.inl 1) ∧ h' = [.inr (5, [.inr (some (.inl 4)), .inl ((nI n)), .inl ((nI q)), .inl ((aV b n q)), .inl PR_fault, .inr (some (.inl 1)), .inr (some (.inl 2)), .inr (some (.inl 3)), .inl ((nI (k + 1))), .inl ((nI (tdO T o))), .inl ((nI c))]), .inl (0, 20, (upd PR_sign k (nI o.1))), .inl (0, 20, (upd PR_letter k (nI o.2.1))), .inl (0, 20, (upd PR_number k (nI o.2.2))), .inl (0, 260, Txt)]) ∨ (∃ g a q td, ltR b n c T p = .inl (g, a) ∧ q ≤ n ∧ r = some (.inl 0) ∧ h' = [.inr (5, [.inr (some (.inl 4)), .inl ((nI n)), .inl ((nI q)), .inl ((aV b n q)), .inl ((ftV g a)), .inr (some (.inl 1)), .inr (some (.inl 2)), .inr (some (.inl 3)), .inl ((nI k)), .inl td, .inl ((nI c))]), .inl (0, 20, PR_sign), .inl (0, 20, PR_letter), .inl (0, 20, PR_number), .inl (0, 260, Txt)])) := by
  subst eX
  have hb' : ∀ i, i < n → b i ≤ 255 := fun i hi => (hb i hi).1
  -- a number behind it
  have e108 : ∀ {ms : Int32} {m h : Nat} {z : Option PV}, (∀ v, v ≤ 99 → (nI v ≤ ms ↔ v < m)) → p + 1 < n → hr b n (p + 1) = h → ¬ h = 64 → T.testBit (hr b n p - 48) = true → (h = 43 ∨ h = 45 ∨ h = 61) → (if h = 61 then 100 else c) = m → b_X5_readOrder_108 l (fun r h' => (∃ o q, ltR b n c T p = .inr (o, q) ∧ p < q ∧ q ≤ n ∧ r = some (.inl 1) ∧ h' = [.inr (5, [.inr (some (.inl 4)), .inl ((nI n)), .inl ((nI q)), .inl ((aV b n q)), .inl PR_fault, .inr (some (.inl 1)), .inr (some (.inl 2)), .inr (some (.inl 3)), .inl ((nI (k + 1))), .inl ((nI (tdO T o))), .inl ((nI c))]), .inl (0, 20, (upd PR_sign k (nI o.1))), .inl (0, 20, (upd PR_letter k (nI o.2.1))), .inl (0, 20, (upd PR_number k (nI o.2.2))), .inl (0, 260, Txt)]) ∨ (∃ g a q td, ltR b n c T p = .inl (g, a) ∧ q ≤ n ∧ r = some (.inl 0) ∧ h' = [.inr (5, [.inr (some (.inl 4)), .inl ((nI n)), .inl ((nI q)), .inl ((aV b n q)), .inl ((ftV g a)), .inr (some (.inl 1)), .inr (some (.inl 2)), .inr (some (.inl 3)), .inl ((nI k)), .inl td, .inl ((nI c))]), .inl (0, 20, PR_sign), .inl (0, 20, PR_letter), .inl (0, 20, PR_number), .inl (0, 260, Txt)])) [some (.inr (some (.inl 0))), some (.inl (nI (hr b n p - 48))), some (.inl (nI p)), some (.inl (nI h)), z] [.inl ms] [.inr (5, [.inr (some (.inl 4)), .inl ((nI n)), .inl ((nI (p + 2))), .inl ((aV b n (p + 2))), .inl PR_fault, .inr (some (.inl 1)), .inr (some (.inl 2)), .inr (some (.inl 3)), .inl ((nI k)), .inl ((nI T)), .inl ((nI c))]), .inl (0, 20, PR_sign), .inl (0, 20, PR_letter), .inl (0, 20, PR_number), .inl (0, 260, Txt)] := fun {ms m h z} hms p1 eh n64 hT ho em => by
    have el : ltR b n c T p = (match nmR b n (p + 2) m 7 with
      | .inl f => .inl f
      | .inr (v, q) => .inr ((h, hr b n p - 48, v), q)) := by
      unfold ltR
      rw [eh, if_neg n64, if_pos ho, if_pos hT, em]
      rcases nmR b n (p + 2) m 7 with f | ⟨v, q⟩ <;> rfl
    show b_X5_readOrder_108 l _ _ _ _
    refine (show o_istore 4 _ _ _ _ from ?_)
    refine call0 (c_X6_readNumber_P (b := b) (n := n) (p := p + 2) (m := m) (k := 7) hn (by omega) hms hb) rfl rfl ?_
    rintro r h' (⟨v, q, e1, rfl, rfl⟩ | ⟨g, a, q, e1, hq, rfl, rfl⟩)
    · have l1 := nmR_le e1
      refine call0 (c_X5_add (k := k) (v := v) hk (by omega)) rfl rfl ?_
      rintro r h' ⟨rfl, rfl⟩
      rw [e1] at el
      have et : tdO T (h, hr b n p - 48, v) = T := if_neg n64
      exact And.intro (Or.inr rfl) (Or.inl ⟨(h, hr b n p - 48, v), q, el, by omega, by omega, rfl, by rw [et]⟩)
    · refine call0 (n_X5_add) rfl rfl ?_
      rintro r h' ⟨rfl, rfl⟩
      rw [e1] at el
      exact And.intro (Or.inl rfl) (Or.inr ⟨g, a, q, _, el, hq, rfl, rfl⟩)
  -- behind the sign
  have e39 : ∀ {h : Nat} {V : Int32} {z : Option PV}, V = nI h → p + 1 < n → hr b n (p + 1) = h → (h = 64 ∨ h = 43 ∨ h = 45 ∨ h = 61) → b_X5_readOrder_39 l (fun r h' => (∃ o q, ltR b n c T p = .inr (o, q) ∧ p < q ∧ q ≤ n ∧ r = some (.inl 1) ∧ h' = [.inr (5, [.inr (some (.inl 4)), .inl ((nI n)), .inl ((nI q)), .inl ((aV b n q)), .inl PR_fault, .inr (some (.inl 1)), .inr (some (.inl 2)), .inr (some (.inl 3)), .inl ((nI (k + 1))), .inl ((nI (tdO T o))), .inl ((nI c))]), .inl (0, 20, (upd PR_sign k (nI o.1))), .inl (0, 20, (upd PR_letter k (nI o.2.1))), .inl (0, 20, (upd PR_number k (nI o.2.2))), .inl (0, 260, Txt)]) ∨ (∃ g a q td, ltR b n c T p = .inl (g, a) ∧ q ≤ n ∧ r = some (.inl 0) ∧ h' = [.inr (5, [.inr (some (.inl 4)), .inl ((nI n)), .inl ((nI q)), .inl ((aV b n q)), .inl ((ftV g a)), .inr (some (.inl 1)), .inr (some (.inl 2)), .inr (some (.inl 3)), .inl ((nI k)), .inl td, .inl ((nI c))]), .inl (0, 20, PR_sign), .inl (0, 20, PR_letter), .inl (0, 20, PR_number), .inl (0, 260, Txt)])) [some (.inr (some (.inl 0))), some (.inl (nI (hr b n p - 48))), some (.inl (nI p)), some (.inl V), z] [] [.inr (5, [.inr (some (.inl 4)), .inl ((nI n)), .inl ((nI (p + 1))), .inl ((aV b n (p + 1))), .inl PR_fault, .inr (some (.inl 1)), .inr (some (.inl 2)), .inr (some (.inl 3)), .inl ((nI k)), .inl ((nI T)), .inl ((nI c))]), .inl (0, 20, PR_sign), .inl (0, 20, PR_letter), .inl (0, 20, PR_number), .inl (0, 260, Txt)] := fun {h V z} eV p1 eh hh => by
    subst eV
    show b_X5_readOrder_39 l _ _ _ _
    refine (show o_aload 0 _ _ _ _ from ?_)
    refine call0 (c_X6_skip_P (n := n) (q := p + 1 + 1) (b := b) hn (by omega) (nI_1 (p + 1)) hb) rfl rfl ?_
    rintro r h' ⟨rfl, rfl⟩
    by_cases h64 : h = 64
    · subst h64
      refine And.intro (fun _ => ?_) (fun z => absurd rfl z)
      have el : ltR b n c T p = (match spR b n (p + 2) with
        | .inl f => .inl f
        | .inr (v, q) => .inr ((64, hr b n p - 48, v), q)) := by
        unfold ltR
        rw [if_pos eh]
        rcases spR b n (p + 2) with f | ⟨v, q⟩ <;> rfl
      refine call0 (c_X5_readPlace (b := b) (n := n) (p := p + 2) hn (by omega) hb) rfl rfl ?_
      rintro r h' (⟨v, q, e1, rfl, rfl⟩ | ⟨g, a, q, e1, hq, rfl, rfl⟩)
      · have l1 := spR_le e1
        refine call0 (c_X5_add (k := k) (v := v) hk (by omega)) rfl rfl ?_
        rintro r h' ⟨rfl, rfl⟩
        rw [e1] at el
        have et : tdO T (64, hr b n p - 48, v) = T ||| 2 ^ (hr b n p - 48) := if_pos rfl
        exact And.intro (Or.inr rfl) (Or.inl ⟨(64, hr b n p - 48, v), q, el, by omega, by omega, rfl, by rw [et, ← td_or (T := T) (l := hr b n p - 48) (by omega)] <;> rfl⟩)
      · refine call0 (n_X5_add) rfl rfl ?_
        rintro r h' ⟨rfl, rfl⟩
        rw [e1] at el
        exact And.intro (Or.inl rfl) (Or.inr ⟨g, a, q, _, el, hq, rfl, rfl⟩)
    · have ho : h = 43 ∨ h = 45 ∨ h = 61 := hh.resolve_left h64
      refine And.intro (fun z => absurd ((nI_eq (b := 64) (by omega) (by omega)).mp z) h64) (fun _ => ?_)
      refine And.intro (fun (w : f_and (f_shr (nI T) (nI (hr b n p - 48))) 1 = 0) => ?_) (fun (w : ¬ f_and (f_shr (nI T) (nI (hr b n p - 48))) 1 = 0) => ?_)
      · have w := (sb_0 (by omega)).mp w
        have el : ltR b n c T p = .inl (7, p) := by
          unfold ltR
          rw [eh, if_neg h64, if_pos ho, if_neg w]
        refine call0 (c_X6_fails_P) rfl rfl ?_
        rintro r h' ⟨rfl, rfl⟩
        exact And.intro (Or.inl rfl) (Or.inr ⟨7, p, p + 2, _, el, by omega, rfl, rfl⟩)
      · have w : T.testBit (hr b n p - 48) = true := Classical.byContradiction fun z => w ((sb_0 (by omega)).mpr z)
        refine And.intro (fun q => ?_) (fun q => ?_)
        · have q := (nI_eq (b := 61) (by omega) (by omega)).mp q
          exact e108 (z := z) (ms := 99) (m := 100) (lim_n (ms := 99) rfl (by omega)) p1 eh h64 w ho (if_pos q)
        · have q : ¬ h = 61 := fun z => q ((nI_eq (b := 61) (by omega) (by omega)).mpr z)
          refine e108 (z := z) (m := c) (fun v hv => ?_) p1 eh h64 w ho (if_neg q)
          have e : (f_sub (nI c) 1).toInt = (c : Int) - ((1 : Nat) : Int) := sub_i (a := c) (b := 1) (by omega) (by omega)
          rw [Int32.le_iff_toInt_le, e, nI_toInt (by omega)]
          omega
  refine m_X5_readOrder (Nat.le_of_ble_eq_true rfl) ?_
  refine call0 (c_X6_ahead_P) rfl rfl ?_
  rintro r h' ⟨rfl, rfl⟩
  have go : ∀ k2 : Nat, k2 ≤ 255 → aV b n (p + 1) = nI k2 → p + 1 < n ∧ hr b n (p + 1) = k2 := fun k2 h2 e => by
    have e := (aV_eq hb' h2).mp e
    exact ⟨hr_lt e h2, e⟩
  refine And.intro (fun (w : aV b n (p + 1) = nI 64) => ?_) (fun (w1 : ¬ aV b n (p + 1) = nI 64) => ?_)
  · obtain ⟨p1, eh⟩ := go 64 (by omega) w
    exact e39 (h := 64) w p1 eh (Or.inl rfl)
  · refine And.intro (fun (w : aV b n (p + 1) = nI 43) => ?_) (fun (w2 : ¬ aV b n (p + 1) = nI 43) => ?_)
    · obtain ⟨p1, eh⟩ := go 43 (by omega) w
      exact e39 (h := 43) w p1 eh (Or.inr (Or.inl rfl))
    · refine And.intro (fun (w : aV b n (p + 1) = nI 45) => ?_) (fun (w3 : ¬ aV b n (p + 1) = nI 45) => ?_)
      · obtain ⟨p1, eh⟩ := go 45 (by omega) w
        exact e39 (h := 45) w p1 eh (Or.inr (Or.inr (Or.inl rfl)))
      · refine And.intro (fun (w : aV b n (p + 1) = nI 61) => ?_) (fun (w4 : ¬ aV b n (p + 1) = nI 61) => ?_)
        · obtain ⟨p1, eh⟩ := go 61 (by omega) w
          exact e39 (h := 61) w p1 eh (Or.inr (Or.inr (Or.inr rfl)))
        · refine call0 (c_X6_at_P) rfl rfl ?_
          rintro r h' ⟨rfl, rfl⟩
          refine call0 (c_X6_fails_P) rfl rfl ?_
          rintro r h' ⟨rfl, rfl⟩
          have el : ltR b n c T p = .inl (1, p + 1) := by
            unfold ltR
            rw [if_neg (fun z => w1 ((aV_eq hb' (by omega)).mpr z)), if_neg (fun z => by
              rcases z with z | z | z
              · exact w2 ((aV_eq hb' (by omega)).mpr z)
              · exact w3 ((aV_eq hb' (by omega)).mpr z)
              · exact w4 ((aV_eq hb' (by omega)).mpr z))]
          exact And.intro (Or.inl rfl) (Or.inr ⟨1, p + 1, p + 1, _, el, by omega, rfl, rfl⟩)
set_option maxRecDepth 100000 in
theorem c_X5_readLine {l : Launch} {PR_fault : Int32} {PR_sign PR_letter PR_number Txt : Nat → Int32}  {b : Nat → Nat} {n p c T k : Nat} (hn : n ≤ 240) (hp : p ≤ n) (hk : k ≤ 20) (hc : c ≤ 48) (hb : txB Txt b n) : MetP l 4 yX5_readLine cX5_readLine 4 (some .boolean) 0 0 [.inr (some (.inl 0))] [.inr (5, [.inr (some (.inl 4)), .inl ((nI n)), .inl ((nI p)), .inl ((aV b n p)), .inl PR_fault, .inr (some (.inl 1)), .inr (some (.inl 2)), .inr (some (.inl 3)), .inl ((nI k)), .inl ((nI T)), .inl ((nI c))]), .inl (0, 20, PR_sign), .inl (0, 20, PR_letter), .inl (0, 20, PR_number), .inl (0, 260, Txt)] (fun r h' => (∃ o q, lnG b n c k T p = .inr (o, q) ∧ p < q ∧ q ≤ n ∧ okO c o ∧ r = some (.inl 1) ∧ h' = [.inr (5, [.inr (some (.inl 4)), .inl ((nI n)), .inl ((nI q)), .inl ((aV b n q)), .inl PR_fault, .inr (some (.inl 1)), .inr (some (.inl 2)), .inr (some (.inl 3)), .inl ((nI (k + 1))), .inl ((nI (tdO T o))), .inl ((nI c))]), .inl (0, 20, (upd PR_sign k (nI o.1))), .inl (0, 20, (upd PR_letter k (nI o.2.1))), .inl (0, 20, (upd PR_number k (nI o.2.2))), .inl (0, 260, Txt)]) ∨ (∃ g a q td, lnG b n c k T p = .inl (g, a) ∧ q ≤ n ∧ r = some (.inl 0) ∧ h' = [.inr (5, [.inr (some (.inl 4)), .inl ((nI n)), .inl ((nI q)), .inl ((aV b n q)), .inl ((ftV g a)), .inr (some (.inl 1)), .inr (some (.inl 2)), .inr (some (.inl 3)), .inl ((nI k)), .inl td, .inl ((nI c))]), .inl (0, 20, PR_sign), .inl (0, 20, PR_letter), .inl (0, 20, PR_number), .inl (0, 260, Txt)])) := by
  have hb' : ∀ i, i < n → b i ≤ 255 := fun i hi => (hb i hi).1
  -- it may stand here
  have e43 : ∀ {w : Int32} {z2 z3 : Option PV}, fcB b n p = true → ((w = 1 ∧ hr b n p = 35) ∨ (w = 0 ∧ ¬ hr b n p = 35)) → b_X5_readLine_43 l (fun r h' => (∃ o q, lnG b n c k T p = .inr (o, q) ∧ p < q ∧ q ≤ n ∧ okO c o ∧ r = some (.inl 1) ∧ h' = [.inr (5, [.inr (some (.inl 4)), .inl ((nI n)), .inl ((nI q)), .inl ((aV b n q)), .inl PR_fault, .inr (some (.inl 1)), .inr (some (.inl 2)), .inr (some (.inl 3)), .inl ((nI (k + 1))), .inl ((nI (tdO T o))), .inl ((nI c))]), .inl (0, 20, (upd PR_sign k (nI o.1))), .inl (0, 20, (upd PR_letter k (nI o.2.1))), .inl (0, 20, (upd PR_number k (nI o.2.2))), .inl (0, 260, Txt)]) ∨ (∃ g a q td, lnG b n c k T p = .inl (g, a) ∧ q ≤ n ∧ r = some (.inl 0) ∧ h' = [.inr (5, [.inr (some (.inl 4)), .inl ((nI n)), .inl ((nI q)), .inl ((aV b n q)), .inl ((ftV g a)), .inr (some (.inl 1)), .inr (some (.inl 2)), .inr (some (.inl 3)), .inl ((nI k)), .inl td, .inl ((nI c))]), .inl (0, 20, PR_sign), .inl (0, 20, PR_letter), .inl (0, 20, PR_number), .inl (0, 260, Txt)])) [some (.inr (some (.inl 0))), some (.inl w), z2, z3] [] [.inr (5, [.inr (some (.inl 4)), .inl ((nI n)), .inl ((nI p)), .inl ((aV b n p)), .inl PR_fault, .inr (some (.inl 1)), .inr (some (.inl 2)), .inr (some (.inl 3)), .inl ((nI k)), .inl ((nI T)), .inl ((nI c))]), .inl (0, 20, PR_sign), .inl (0, 20, PR_letter), .inl (0, 20, PR_number), .inl (0, 260, Txt)] := fun {w z2 z3} hf hw => by
    have hf2 := fcB_t.mp hf
    show b_X5_readLine_43 l _ _ _ _
    refine (show o_aload 0 _ _ _ _ from ?_)
    refine And.intro (fun (u : nI k < 20) => ?_) (fun (u : ¬ nI k < 20) => ?_)
    · have u := (nI_ltI (b := 20) (by omega) (by omega)).mp u
      have eg : lnG b n c k T p = lnR b n c T p := by
        unfold lnG
        rw [if_pos hf, if_neg (by omega)]
      have pn : p < n := hr_lt2 (b := b) (by omega)
      refine call0 (c_X6_at_P) rfl rfl ?_
      rintro r h' ⟨rfl, rfl⟩
      rcases hw with ⟨rfl, h35⟩ | ⟨rfl, h35⟩
      · refine And.intro (fun z => absurd z (by show ¬ ((_ : Int32) = _); decide)) (fun _ => ?_)
        refine call0 (c_X6_skip_P (n := n) (q := p + 1) (b := b) hn (by omega) (nI_1 p) hb) rfl rfl ?_
        rintro r h' ⟨rfl, rfl⟩
        refine And.intro (fun z => absurd z (by show ¬ ((_ : Int32) = _); decide)) (fun _ => ?_)
        have el : lnR b n c T p = (match spR b n (p + 1) with
          | .inl f => .inl f
          | .inr (v, q) => .inr ((35, 0, v), q)) := if_pos h35
        refine call0 (c_X5_readPlace (b := b) (n := n) (p := p + 1) hn (by omega) hb) rfl rfl ?_
        rintro r h' (⟨v, q, e1, rfl, rfl⟩ | ⟨g, a, q, e1, hq, rfl, rfl⟩)
        · have l1 := spR_le e1
          refine call0 (c_X5_add (k := k) (v := v) u (by omega)) rfl rfl ?_
          rintro r h' ⟨rfl, rfl⟩
          rw [e1] at el
          have ok := lnR_le (fun z => absurd h35 z) el
          exact And.intro (Or.inr rfl) (Or.inl ⟨(35, 0, v), q, eg.trans el, ok.1, ok.2.1, ok.2.2, rfl, rfl⟩)
        · refine call0 (n_X5_add) rfl rfl ?_
          rintro r h' ⟨rfl, rfl⟩
          rw [e1] at el
          exact And.intro (Or.inl rfl) (Or.inr ⟨g, a, q, _, eg.trans el, hq, rfl, rfl⟩)
      · have h48 : 48 ≤ hr b n p ∧ hr b n p ≤ 55 := hf2.resolve_left h35
        refine And.intro (fun _ => ?_) (fun z => absurd rfl z)
        refine call0 (c_X6_ahead_P) rfl rfl ?_
        rintro r h' ⟨rfl, rfl⟩
        refine call0 (c_X6_skip_P (n := n) (q := p + 1) (b := b) hn (by omega) (nI_1 p) hb) rfl rfl ?_
        rintro r h' ⟨rfl, rfl⟩
        refine And.intro (fun _ => ?_) (fun z => absurd rfl z)
        have el : lnR b n c T p = ltR b n c T p := if_neg h35
        refine call0 (c_X5_readOrder (b := b) (n := n) (p := p) (c := c) (T := T) (k := k) (fsub_k (k := 48) h48.1 (by omega)) hn pn u hc h48.1 h48.2 hb) rfl rfl ?_
        rintro r h' (⟨o, q, e1, q1, q2, rfl, rfl⟩ | ⟨g, a, q, td, e1, hq, rfl, rfl⟩)
        · have ok := lnR_le (fun _ => h48.2) (el.trans e1)
          exact And.intro (Or.inr rfl) (Or.inl ⟨o, q, (eg.trans el).trans e1, q1, q2, ok.2.2, rfl, rfl⟩)
        · exact And.intro (Or.inl rfl) (Or.inr ⟨g, a, q, td, (eg.trans el).trans e1, hq, rfl, rfl⟩)
    · have u : k = 20 := by
        rcases Nat.lt_or_ge k 20 with z | z
        · exact absurd ((nI_ltI (b := 20) (by omega) (by omega)).mpr z) u
        · omega
      have eg : lnG b n c k T p = .inl (4, p) := by
        unfold lnG
        rw [if_pos hf, if_pos u]
      refine call0 (c_X6_at_P) rfl rfl ?_
      rintro r h' ⟨rfl, rfl⟩
      refine call0 (c_X6_fails_P) rfl rfl ?_
      rintro r h' ⟨rfl, rfl⟩
      exact And.intro (Or.inl rfl) (Or.inr ⟨4, p, p, _, eg, hp, rfl, rfl⟩)
  refine m_X5_readLine (Nat.le_of_ble_eq_true rfl) ?_
  refine call0 (c_X6_ahead_P) rfl rfl ?_
  rintro r h' ⟨rfl, rfl⟩
  refine And.intro (fun (w : aV b n p = nI 35) => ?_) (fun (w : ¬ aV b n p = nI 35) => ?_)
  · have w := (aV_eq hb' (by omega)).mp w
    refine And.intro (fun z => absurd z (by show ¬ ((_ : Int32) = _); decide)) (fun _ => ?_)
    exact e43 (w := 1) (fcB_t.mpr (Or.inl w)) (Or.inl ⟨rfl, w⟩)
  · have w : ¬ hr b n p = 35 := fun z => w ((aV_eq hb' (by omega)).mpr z)
    refine And.intro (fun _ => ?_) (fun z => absurd rfl z)
    refine call0 (c_X6_ahead_P) rfl rfl ?_
    rintro r h' ⟨rfl, rfl⟩
    refine call0 (c_within) rfl rfl ?_
    rintro r h' ⟨rfl, rfl⟩
    refine br_b (fun v => ?_) (fun v => ?_)
    · have v : ¬ (48 ≤ hr b n p ∧ hr b n p ≤ 55) := fun z => v ((aV_in (lo := 48) (hi := 55) hb' (by omega) (by omega)).mpr z)
      have eg : lnG b n c k T p = .inl (1, p) := if_neg (fun z => (fcB_t.mp z).elim w v)
      refine call0 (c_X6_at_P) rfl rfl ?_
      rintro r h' ⟨rfl, rfl⟩
      refine call0 (c_X6_fails_P) rfl rfl ?_
      rintro r h' ⟨rfl, rfl⟩
      exact And.intro (Or.inl rfl) (Or.inr ⟨1, p, p, _, eg, hp, rfl, rfl⟩)
    · have v := (aV_in (lo := 48) (hi := 55) hb' (by omega) (by omega)).mp v
      exact e43 (w := 0) (fcB_t.mpr (Or.inr v)) (Or.inr ⟨rfl, w⟩)
/-- the rows hold the orders -/
def rwO (sg le nu : Nat → Int32) (os : List Ord) : Prop := ∀ j o, os[j]? = some o → sg j = nI o.1 ∧ le j = nI o.2.1 ∧ nu j = nI o.2.2
theorem rwO_up {sg le nu : Nat → Int32} {os : List Ord} {o : Ord} {k : Nat} (h : rwO sg le nu os) (hk : os.length = k) : rwO (upd sg k (nI o.1)) (upd le k (nI o.2.1)) (upd nu k (nI o.2.2)) (os ++ [o]) := fun j o' e => by
  by_cases q : j = k
  · subst q
    rw [← hk, List.getElem?_append_right (Nat.le_refl _), Nat.sub_self] at e
    cases e
    exact ⟨upd_sI, upd_sI, upd_sI⟩
  · have jl : j < (os ++ [o]).length := by
      rcases Nat.lt_or_ge j (os ++ [o]).length with z | z
      · exact z
      · rw [List.getElem?_eq_none z] at e
        cases e
    rw [List.length_append] at jl
    have jl : j < os.length + 1 := jl
    rw [List.getElem?_append_left (by omega)] at e
    rw [upd_nI q, upd_nI q, upd_nI q]
    exact h j o' e
def tdL (T : Nat) (os : List Ord) : Nat := os.foldl tdO T
set_option maxRecDepth 100000 in
theorem c_X5_read {l : Launch} {PR_end PR_at PR_ahead PR_fault PR_lines PR_told PR_stamps : Int32} {PR_sign PR_letter PR_number Txt : Nat → Int32}  {b : Nat → Nat} {n c T : Nat} (hn1 : 1 ≤ n) (hn : n ≤ 240) (hc : c ≤ 48) (hb : txB Txt b n) : MetP l 5 yX5_read cX5_read 5 (some .int) 0 0 [.inr (some (.inl 0)), .inl (nI n), .inl (nI T), .inl (nI c)] [.inr (5, [.inr (some (.inl 4)), .inl PR_end, .inl PR_at, .inl PR_ahead, .inl PR_fault, .inr (some (.inl 1)), .inr (some (.inl 2)), .inr (some (.inl 3)), .inl PR_lines, .inl PR_told, .inl PR_stamps]), .inl (0, 20, PR_sign), .inl (0, 20, PR_letter), .inl (0, 20, PR_number), .inl (0, 260, Txt)] (fun r h' => ∃ (at_ ah fa td : Int32) (k : Nat) (sg le nu : Nat → Int32), k ≤ 20 ∧ ((∃ os, psR b n c T = .inr os ∧ os.length = k ∧ rwO sg le nu os ∧ (∀ o ∈ os, okO c o) ∧ r = some (.inl (nI k))) ∨ (∃ g a, psR b n c T = .inl (g, a) ∧ (1 ≤ g ∧ g ≤ 7) ∧ a ≤ n ∧ r = some (.inl (ftV g a)))) ∧ h' = [.inr (5, [.inr (some (.inl 4)), .inl ((nI n)), .inl at_, .inl ah, .inl fa, .inr (some (.inl 1)), .inr (some (.inl 2)), .inr (some (.inl 3)), .inl ((nI k)), .inl td, .inl ((nI c))]), .inl (0, 20, sg), .inl (0, 20, le), .inl (0, 20, nu), .inl (0, 260, Txt)]) := by
  refine m_X5_read (fun μ L st h => ∃ (i p T' : Nat) (fa : Int32) (os : List Ord) (sg le nu : Nat → Int32), μ = 21 - i ∧ i ≤ 20 ∧ p ≤ n ∧ os.length = i ∧ psR b n c T = ctO os (psG b n c (21 - i) i p T') ∧ rwO sg le nu os ∧ (∀ o ∈ os, okO c o) ∧ L = [some (.inr (some (.inl 0))), some (.inl (nI n)), some (.inl (nI T)), some (.inl (nI c)), some (.inl (nI i))] ∧ st = [] ∧ h = [.inr (5, [.inr (some (.inl 4)), .inl ((nI n)), .inl ((nI p)), .inl ((aV b n p)), .inl fa, .inr (some (.inl 1)), .inr (some (.inl 2)), .inr (some (.inl 3)), .inl ((nI i)), .inl ((nI T')), .inl ((nI c))]), .inl (0, 20, sg), .inl (0, 20, le), .inl (0, 20, nu), .inl (0, 260, Txt)]) (Nat.le_of_ble_eq_true rfl) ?_ ?_
  · refine call0 (c_X6_begin_P (b := b) (n := n) (by omega) hb) rfl rfl ?_
    rintro r h' ⟨rfl, rfl⟩
    exact ⟨_, 0, 0, T, 0, [], PR_sign, PR_letter, PR_number, rfl, by omega, by omega, rfl, ct_nil.symm, fun j o e => (by cases e), fun o ho => absurd ho List.not_mem_nil, rfl, rfl, rfl⟩
  · rintro μ L st h ⟨i, p, T', fa, os, sg, le, nu, hμ, h1, h2, h3, h4, h5, h6, rfl, rfl, rfl⟩
    refine And.intro (fun z => absurd ((nI_ltI (a := 20) (by omega) (by omega)).mp z) (by omega)) (fun _ => ?_)
    have ef : psG b n c (21 - i) i p T' = (match lnG b n c i T' p with
      | .inl x => .inl x
      | .inr (o, q) => if n ≤ q then .inr [o] else if hr b n q = 59 then ctO [o] (psG b n c (20 - i) (i + 1) (q + 1) (tdO T' o)) else .inl (1, q)) := by
      rw [show 21 - i = (20 - i) + 1 by omega]
      rfl
    refine call0 (c_X5_readLine (b := b) (n := n) (p := p) (c := c) (T := T') (k := i) hn h2 h1 hc hb) rfl rfl ?_
    rintro r h' (⟨o, q, e1, q1, q2, ok, rfl, rfl⟩ | ⟨g, a, q, td, e1, hq, rfl, rfl⟩)
    · have i20 : i < 20 := by
        rcases Nat.lt_or_ge i 20 with z | z
        · exact z
        · obtain rfl : i = 20 := by omega
          exact (lnG_20 e1).elim
      rw [e1] at ef
      dsimp only at ef
      have h6' : ∀ o' ∈ os ++ [o], okO c o' := fun o' ho => (List.mem_append.mp ho).elim (h6 o') (fun z => by
        cases List.mem_singleton.mp z
        exact ok)
      have h3' : (os ++ [o]).length = i + 1 := by
        rw [List.length_append, h3]
        rfl
      refine And.intro (fun z => absurd z (by show ¬ ((_ : Int32) = _); decide)) (fun _ => ?_)
      refine call0 (c_X6_ended_P (n := n) (p := q) hn (by omega)) rfl rfl ?_
      rintro r h' ⟨rfl, rfl⟩
      refine br_b (fun w => ?_) (fun w => ?_)
      · rw [if_neg w] at ef
        refine call0 (c_X6_reads_P (b := b) (n := n) (p := q) (k := 59) hn q2 (by omega) hb) rfl rfl ?_
        rintro r h' (⟨u, rfl, rfl⟩ | ⟨u, rfl, rfl⟩)
        · rw [if_pos u] at ef
          have qn := hr_lt u (by omega)
          refine And.intro (fun z => absurd z (by show ¬ ((_ : Int32) = _); decide)) (fun _ => ?_)
          exact ⟨21 - (i + 1), by omega, i + 1, q + 1, tdO T' o, fa, os ++ [o], _, _, _, rfl, by omega, by omega, h3', by rw [h4, ef, ct_ct, show 21 - (i + 1) = 20 - i by omega], rwO_up h5 h3, h6', by rw [← nI_1 i] <;> rfl, rfl, rfl⟩
        · rw [if_neg u] at ef
          refine And.intro (fun _ => ?_) (fun z => absurd rfl z)
          refine call0 (c_X6_fault_P) rfl rfl ?_
          rintro r h' ⟨rfl, rfl⟩
          exact ⟨_, _, _, _, i + 1, _, _, _, by omega, Or.inr ⟨1, q, by rw [h4, ef]; rfl, by omega, q2, rfl⟩, rfl⟩
      · rw [if_pos w] at ef
        exact ⟨_, _, _, _, i + 1, _, _, _, by omega, Or.inl ⟨os ++ [o], by rw [h4, ef]; rfl, h3', rwO_up h5 h3, h6', rfl⟩, rfl⟩
    · rw [e1] at ef
      have fb := lnG_f h2 e1
      refine And.intro (fun _ => ?_) (fun z => absurd rfl z)
      refine call0 (c_X6_fault_P) rfl rfl ?_
      rintro r h' ⟨rfl, rfl⟩
      exact ⟨_, _, _, _, i, sg, le, nu, h1, Or.inr ⟨g, a, by rw [h4, ef]; rfl, fb.1, fb.2, rfl⟩, rfl⟩

