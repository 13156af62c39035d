set_option maxRecDepth 100000 in
theorem g_law_mint_R2 {l : Launch} {Ls : Nat} {xs : Nat → Int32} {c18 : Blk} {τ : Nat → List (Option Nat)} {h : PH} {j : Nat} (hΦ : Φ τ) (hz : RR τ) (hj : 6 * j + 6 ≤ Ls) (hL : Ls ≤ 3072) (hh : all2 (gC ρ0 τ) HL_R2 h) (K : ∀ (τ2 : Nat → List (Option Nat)) (h2 : PH), Φ τ2 → HH τ2 h2 → c18 [some (.inr (some (.inr []))), some (.inr (some (.inl 0))), some (.inr (some (.inl 55))), some (.inl (f_add (nI (6 * j)) 6))] [] h2) : b2_L_law_164 l Ls xs c18 [some (.inr (some (.inr []))), some (.inr (some (.inl 0))), some (.inr (some (.inl 55))), some (.inl (nI (6 * j)))] [] h := by
  refine And.intro (sv (k := 1) hj hL (by omega)) ?_
  refine And.intro (sv (k := 2) hj hL (by omega)) ?_
  refine And.intro (sv (k := 3) hj hL (by omega)) ?_
  refine callT (τ := τ) (tm := tmO [1, 9, 14, 19, 24, 27, 29, 32, 35, 54, 39, 47, 40]) (A := [.inl (-2147483648, 2147483647), .inl (-2147483648, 2147483647), .inl (-2147483648, 2147483647), .inr (.inr (some (.inl 0)))]) (H := HL_R2) (Ts := [([.inl (-2147483648, 2147483647)], HL_R2)]) hΦ s_X11_mint ⟨topA_ok _, topA_ok _, topA_ok _, rfl, trivial⟩ hh (by decide +kernel) (fun T hT st h1 q1 q2 => ?_)
  cases List.mem_singleton.mp hT
  obtain ⟨v, rfl, _⟩ := st1 q1
  refine And.intro (sv (k := 1) hj hL (by omega)) ?_
  refine And.intro (sv (k := 2) hj hL (by omega)) ?_
  refine And.intro (sv (k := 3) hj hL (by omega)) ?_
  refine callT (τ := τ) (tm := tmO [56, 57, 58, 60, 61, 62, 63, 64, 65, 66, 67, 68, 69, 70, 71, 72, 73, 74, 75, 76, 77, 78, 79, 80, 81, 82, 83, 84, 85, 86]) (A := [.inl (-2147483648, 2147483647), .inl (-2147483648, 2147483647), .inl (-2147483648, 2147483647), .inr (.inr (some (.inl 55)))]) (H := HL_R2) (Ts := [([.inl (-2147483648, 2147483647)], HL_R2)]) hΦ s_X12_mint ⟨topA_ok _, topA_ok _, topA_ok _, rfl, trivial⟩ q2 (by decide +kernel) (fun T hT st h2 q3 q4 => ?_)
  cases List.mem_singleton.mp hT
  obtain ⟨w, rfl, _⟩ := st1 q3
  exact K τ h2 hΦ ⟨hz, Or.inr (Or.inr q4)⟩

set_option maxRecDepth 100000 in
theorem g_law_feed_R2 {l : Launch} {Ls : Nat} {xs : Nat → Int32} {c18 : Blk} {τ : Nat → List (Option Nat)} {h : PH} {j : Nat} (hΦ : Φ τ) (hz : RR τ) (hj : 6 * j + 6 ≤ Ls) (hL : Ls ≤ 3072) (hh : all2 (gC ρ0 τ) HL_R2 h) (K : ∀ (τ2 : Nat → List (Option Nat)) (h2 : PH), Φ τ2 → HH τ2 h2 → c18 [some (.inr (some (.inr []))), some (.inr (some (.inl 0))), some (.inr (some (.inl 55))), some (.inl (f_add (nI (6 * j)) 6))] [] h2) : b2_L_law_207 l Ls xs c18 [some (.inr (some (.inr []))), some (.inr (some (.inl 0))), some (.inr (some (.inl 55))), some (.inl (nI (6 * j)))] [] h := by
  refine And.intro (sv (k := 1) hj hL (by omega)) ?_
  refine And.intro (sv (k := 2) hj hL (by omega)) ?_
  refine And.intro (sv (k := 3) hj hL (by omega)) ?_
  refine And.intro (sv (k := 4) hj hL (by omega)) ?_
  refine And.intro (sv (k := 5) hj hL (by omega)) ?_
  refine callT (τ := τ) (tm := tmO [3, 9, 14, 19, 24, 27, 29, 32, 35, 54, 39, 47, 40]) (A := [.inl (-2147483648, 2147483647), .inl (-2147483648, 2147483647), .inl (-2147483648, 2147483647), .inl (-2147483648, 2147483647), .inl (-2147483648, 2147483647), .inr (.inr (some (.inl 0)))]) (H := HL_R2) (Ts := [([.inl (-2147483648, 2147483647)], HL_R2)]) hΦ s_X11_feed ⟨topA_ok _, topA_ok _, topA_ok _, topA_ok _, topA_ok _, rfl, trivial⟩ hh (by decide +kernel) (fun T hT st h1 q1 q2 => ?_)
  cases List.mem_singleton.mp hT
  obtain ⟨v, rfl, _⟩ := st1 q1
  refine And.intro (sv (k := 1) hj hL (by omega)) ?_
  refine And.intro (sv (k := 2) hj hL (by omega)) ?_
  refine And.intro (sv (k := 3) hj hL (by omega)) ?_
  refine And.intro (sv (k := 4) hj hL (by omega)) ?_
  refine And.intro (sv (k := 5) hj hL (by omega)) ?_
  refine callT (τ := τ) (tm := tmO [56, 57, 58, 59, 60, 61, 62, 63, 65, 66, 67, 68, 69, 70, 71, 72, 73, 74, 75, 76, 77, 78, 79, 80, 81, 82, 83, 84, 85, 86]) (A := [.inl (-2147483648, 2147483647), .inl (-2147483648, 2147483647), .inl (-2147483648, 2147483647), .inl (-2147483648, 2147483647), .inl (-2147483648, 2147483647), .inr (.inr (some (.inl 55)))]) (H := HL_R2) (Ts := [([.inl (-2147483648, 2147483647)], HL_R2)]) hΦ s_X12_feed ⟨topA_ok _, topA_ok _, topA_ok _, topA_ok _, topA_ok _, rfl, trivial⟩ q2 (by decide +kernel) (fun T hT st h2 q3 q4 => ?_)
  cases List.mem_singleton.mp hT
  obtain ⟨w, rfl, _⟩ := st1 q3
  exact K τ h2 hΦ ⟨hz, Or.inr (Or.inr q4)⟩

set_option maxRecDepth 100000 in
theorem g_law_law_R2 {l : Launch} {Ls : Nat} {xs : Nat → Int32} {c18 : Blk} {τ : Nat → List (Option Nat)} {h : PH} {j : Nat} (hΦ : Φ τ) (hz : RR τ) (hj : 6 * j + 6 ≤ Ls) (hL : Ls ≤ 3072) (hh : all2 (gC ρ0 τ) HL_R2 h) (K : ∀ (τ2 : Nat → List (Option Nat)) (h2 : PH), Φ τ2 → HH τ2 h2 → c18 [some (.inr (some (.inr []))), some (.inr (some (.inl 0))), some (.inr (some (.inl 55))), some (.inl (f_add (nI (6 * j)) 6))] [] h2) : b2_L_law_270 l Ls xs c18 [some (.inr (some (.inr []))), some (.inr (some (.inl 0))), some (.inr (some (.inl 55))), some (.inl (nI (6 * j)))] [] h := by
  refine And.intro (sv (k := 1) hj hL (by omega)) ?_
  refine callT (τ := τ) (tm := tmO [3, 9, 14, 19, 24, 27, 29, 32, 35, 39, 47]) (A := [.inl (-2147483648, 2147483647), .inr (.inr (some (.inl 0)))]) (H := HL_R2) (Ts := [([.inl (-2147483648, 2147483647)], HL_S1), ([.inl (-2147483648, 2147483647)], HL_R1), ([.inl (-2147483648, 2147483647)], HL_S2), ([.inl (-2147483648, 2147483647)], HL_R2)]) hΦ s_X11_law_R ⟨topA_ok _, rfl, trivial⟩ hh (by decide +kernel) (fun T hT st h1 q1 q2 => ?_)
  rcases List.mem_cons.mp hT with rfl | hT
  · obtain ⟨v, rfl, _⟩ := st1 q1
    refine And.intro (sv (k := 1) hj hL (by omega)) ?_
    refine callL (τ := τ) (tm := tmO [56, 57, 58, 59, 60, 61, 62, 63, 76, 77, 78, 79, 80, 81, 82, 83, 84, 85, 86]) (A := [.inl (-2147483648, 2147483647), .inr (.inr (some (.inl 55)))]) (as := [.inr (.inr (some (.inl 55))), .inl (-2147483648, 2147483647)]) (H := HL_S1) (H2 := HL_S1) hΦ s_X12_law ⟨topA_ok _, rfl, trivial⟩ q2 rfl (by decide +kernel) (by decide +kernel) (by decide +kernel) (by decide +kernel) (fun τ2 p2 p3 y h2 q3 => ?_)
    exact K τ2 h2 p2 ⟨RR_to (fun t ht => p3 t (kT_202 ht)) hz, Or.inl (Or.inl q3)⟩
  rcases List.mem_cons.mp hT with rfl | hT
  · obtain ⟨v, rfl, _⟩ := st1 q1
    refine And.intro (sv (k := 1) hj hL (by omega)) ?_
    refine callL (τ := τ) (tm := tmO [56, 57, 58, 59, 60, 61, 62, 63, 76, 77, 78, 79, 80, 81, 82, 83, 84, 85, 86]) (A := [.inl (-2147483648, 2147483647), .inr (.inr (some (.inl 55)))]) (as := [.inr (.inr (some (.inl 55))), .inl (-2147483648, 2147483647)]) (H := HL_R1) (H2 := HL_R1) hΦ s_X12_law ⟨topA_ok _, rfl, trivial⟩ q2 rfl (by decide +kernel) (by decide +kernel) (by decide +kernel) (by decide +kernel) (fun τ2 p2 p3 y h2 q3 => ?_)
    exact K τ2 h2 p2 ⟨RR_to (fun t ht => p3 t (kT_202 ht)) hz, Or.inl (Or.inr q3)⟩
  rcases List.mem_cons.mp hT with rfl | hT
  · obtain ⟨v, rfl, _⟩ := st1 q1
    refine And.intro (sv (k := 1) hj hL (by omega)) ?_
    refine callL (τ := τ) (tm := tmO [56, 57, 58, 59, 60, 61, 62, 63, 76, 77, 78, 79, 80, 81, 82, 83, 84, 85, 86]) (A := [.inl (-2147483648, 2147483647), .inr (.inr (some (.inl 55)))]) (as := [.inr (.inr (some (.inl 55))), .inl (-2147483648, 2147483647)]) (H := HL_S2) (H2 := HL_S2) hΦ s_X12_law ⟨topA_ok _, rfl, trivial⟩ q2 rfl (by decide +kernel) (by decide +kernel) (by decide +kernel) (by decide +kernel) (fun τ2 p2 p3 y h2 q3 => ?_)
    exact K τ2 h2 p2 ⟨RR_to (fun t ht => p3 t (kT_202 ht)) hz, Or.inr (Or.inl q3)⟩
  cases List.mem_singleton.mp hT
  obtain ⟨v, rfl, _⟩ := st1 q1
  refine And.intro (sv (k := 1) hj hL (by omega)) ?_
  refine callL (τ := τ) (tm := tmO [56, 57, 58, 59, 60, 61, 62, 63, 76, 77, 78, 79, 80, 81, 82, 83, 84, 85, 86]) (A := [.inl (-2147483648, 2147483647), .inr (.inr (some (.inl 55)))]) (as := [.inr (.inr (some (.inl 55))), .inl (-2147483648, 2147483647)]) (H := HL_R2) (H2 := HL_R2) hΦ s_X12_law ⟨topA_ok _, rfl, trivial⟩ q2 rfl (by decide +kernel) (by decide +kernel) (by decide +kernel) (by decide +kernel) (fun τ2 p2 p3 y h2 q3 => ?_)
  exact K τ2 h2 p2 ⟨RR_to (fun t ht => p3 t (kT_202 ht)) hz, Or.inr (Or.inr q3)⟩

set_option maxRecDepth 100000 in
theorem g_law_sheet_R2 {l : Launch} {Ls : Nat} {xs : Nat → Int32} {c18 : Blk} {τ : Nat → List (Option Nat)} {h : PH} {j : Nat} (hΦ : Φ τ) (hz : RR τ) (hj : 6 * j + 6 ≤ Ls) (hL : Ls ≤ 3072) (hh : all2 (gC ρ0 τ) HL_R2 h) (K : ∀ (τ2 : Nat → List (Option Nat)) (h2 : PH), Φ τ2 → HH τ2 h2 → c18 [some (.inr (some (.inr []))), some (.inr (some (.inl 0))), some (.inr (some (.inl 55))), some (.inl (f_add (nI (6 * j)) 6))] [] h2) : b2_L_law_293 l Ls xs c18 [some (.inr (some (.inr []))), some (.inr (some (.inl 0))), some (.inr (some (.inl 55))), some (.inl (nI (6 * j)))] [] h := by
  refine And.intro (sv (k := 1) hj hL (by omega)) ?_
  refine callT (τ := τ) (tm := tmO [14, 19, 24, 27, 29, 35, 54, 39, 47, 40]) (A := [.inl (-2147483648, 2147483647), .inr (.inr (some (.inl 0)))]) (H := HL_R2) (Ts := [([.inl (-2147483648, 2147483647)], HL_R2)]) hΦ s_X11_sheet ⟨topA_ok _, rfl, trivial⟩ hh (by decide +kernel) (fun T hT st h1 q1 q2 => ?_)
  cases List.mem_singleton.mp hT
  obtain ⟨v, rfl, _⟩ := st1 q1
  refine And.intro (sv (k := 1) hj hL (by omega)) ?_
  refine callT (τ := τ) (tm := tmO [57, 58, 59, 62, 63, 65, 66, 67, 68, 69, 70, 71, 72, 73, 74, 75, 76, 77, 82, 83, 84, 85, 86]) (A := [.inl (-2147483648, 2147483647), .inr (.inr (some (.inl 55)))]) (H := HL_R2) (Ts := [([.inl (-2147483648, 2147483647)], HL_R2)]) hΦ s_X12_sheet ⟨topA_ok _, rfl, trivial⟩ q2 (by decide +kernel) (fun T hT st h2 q3 q4 => ?_)
  cases List.mem_singleton.mp hT
  obtain ⟨w, rfl, _⟩ := st1 q3
  exact K τ h2 hΦ ⟨hz, Or.inr (Or.inr q4)⟩

set_option maxRecDepth 100000 in
theorem g_law_post_R2 {l : Launch} {Ls : Nat} {xs : Nat → Int32} {c18 : Blk} {τ : Nat → List (Option Nat)} {h : PH} {j : Nat} (hΦ : Φ τ) (hz : RR τ) (hj : 6 * j + 6 ≤ Ls) (hL : Ls ≤ 3072) (hh : all2 (gC ρ0 τ) HL_R2 h) (K : ∀ (τ2 : Nat → List (Option Nat)) (h2 : PH), Φ τ2 → HH τ2 h2 → c18 [some (.inr (some (.inr []))), some (.inr (some (.inl 0))), some (.inr (some (.inl 55))), some (.inl (f_add (nI (6 * j)) 6))] [] h2) : b2_L_law_316 l Ls xs c18 [some (.inr (some (.inr []))), some (.inr (some (.inl 0))), some (.inr (some (.inl 55))), some (.inl (nI (6 * j)))] [] h := by
  refine And.intro (sv (k := 1) hj hL (by omega)) ?_
  refine callT (τ := τ) (tm := tmO [14, 19, 24, 27, 29, 32, 54, 39, 47, 40]) (A := [.inl (-2147483648, 2147483647), .inr (.inr (some (.inl 0)))]) (H := HL_R2) (Ts := [([.inl (-2147483648, 2147483647)], HL_R2)]) hΦ s_X11_post ⟨topA_ok _, rfl, trivial⟩ hh (by decide +kernel) (fun T hT st h1 q1 q2 => ?_)
  cases List.mem_singleton.mp hT
  obtain ⟨v, rfl, _⟩ := st1 q1
  refine And.intro (sv (k := 1) hj hL (by omega)) ?_
  refine callT (τ := τ) (tm := tmO [58, 59, 60, 61, 65, 66, 67, 68, 69, 70, 71, 72, 73, 74, 75, 76, 77, 78, 79, 80, 81, 82, 83, 84, 85, 86]) (A := [.inl (-2147483648, 2147483647), .inr (.inr (some (.inl 55)))]) (H := HL_R2) (Ts := [([.inl (-2147483648, 2147483647)], HL_R2)]) hΦ s_X12_post ⟨topA_ok _, rfl, trivial⟩ q2 (by decide +kernel) (fun T hT st h2 q3 q4 => ?_)
  cases List.mem_singleton.mp hT
  obtain ⟨w, rfl, _⟩ := st1 q3
  exact K τ h2 hΦ ⟨hz, Or.inr (Or.inr q4)⟩

set_option maxRecDepth 100000 in
theorem g_law_days_R2_n {l : Launch} {Ls : Nat} {xs : Nat → Int32} {c18 : Blk} {τ : Nat → List (Option Nat)} {h : PH} {j : Nat} (hΦ : Φ τ) (hz : RR τ) (hj : 6 * j + 6 ≤ Ls) (hL : Ls ≤ 3072) (hh : all2 (gC ρ0 τ) HL_R2 h) (K : ∀ (τ2 : Nat → List (Option Nat)) (h2 : PH), Φ τ2 → HH τ2 h2 → c18 [some (.inr (some (.inr []))), some (.inr (some (.inl 0))), some (.inr (some (.inl 55))), some (.inl (f_add (nI (6 * j)) 6))] [] h2) (hN : ¬ (1 ≤ (xs (f_add (nI (6 * j)) 1).toNatClampNeg) ∧ (xs (f_add (nI (6 * j)) 1).toNatClampNeg) ≤ 100)) : b2_L_law_339 l Ls xs c18 [some (.inr (some (.inr []))), some (.inr (some (.inl 0))), some (.inr (some (.inl 55))), some (.inl (nI (6 * j)))] [] h := by
  refine And.intro (sv (k := 1) hj hL (by omega)) ?_
  refine callSame (τ := τ) (xs := [(xs (f_add (nI (6 * j)) 1).toNatClampNeg)]) (v := -1) (rest := []) (a := 0) (ci := 10) (tm := tmO [1, 14, 19, 27, 29, 32, 35, 54, 39, 40]) (H := HL_R2) hΦ trivial (n_daysC hN) hh (fun K h => h) rfl rfl rfl (by decide +kernel) ?_
  refine And.intro (sv (k := 1) hj hL (by omega)) ?_
  refine callSame (τ := τ) (xs := [(xs (f_add (nI (6 * j)) 1).toNatClampNeg)]) (v := -1) (rest := []) (a := 55) (ci := 11) (tm := tmO [57, 58, 63, 64, 65, 66, 67, 68, 69, 70, 78, 79, 80, 81, 83, 84, 85, 86]) (H := HL_R2) hΦ trivial (n_daysR hN) hh (fun K h => h) rfl rfl rfl (by decide +kernel) ?_
  exact K τ h hΦ ⟨hz, Or.inr (Or.inr hh)⟩

set_option maxRecDepth 100000 in
theorem g_law_days_R2_y {l : Launch} {Ls : Nat} {xs : Nat → Int32} {c18 : Blk} {τ : Nat → List (Option Nat)} {h : PH} {j : Nat} (hΦ : Φ τ) (hz : RR τ) (hj : 6 * j + 6 ≤ Ls) (hL : Ls ≤ 3072) (hh : all2 (gC ρ0 τ) HL_R2 h) (K : ∀ (τ2 : Nat → List (Option Nat)) (h2 : PH), Φ τ2 → HH τ2 h2 → c18 [some (.inr (some (.inr []))), some (.inr (some (.inl 0))), some (.inr (some (.inl 55))), some (.inl (f_add (nI (6 * j)) 6))] [] h2) (hN : 1 ≤ (xs (f_add (nI (6 * j)) 1).toNatClampNeg) ∧ (xs (f_add (nI (6 * j)) 1).toNatClampNeg) ≤ 100) : b2_L_law_339 l Ls xs c18 [some (.inr (some (.inr []))), some (.inr (some (.inl 0))), some (.inr (some (.inl 55))), some (.inl (nI (6 * j)))] [] h := by
  have u1 : (1 : Int) ≤ (xs (f_add (nI (6 * j)) 1).toNatClampNeg).toInt := ge32 hN.1
  have u2 : (xs (f_add (nI (6 * j)) 1).toNatClampNeg).toInt ≤ 100 := ge32 hN.2
  obtain ⟨n, n_, e1⟩ := rng_n (x := (xs (f_add (nI (6 * j)) 1).toNatClampNeg)) (k := 100) (by omega) (by omega)
  have s1 : (nI n).toInt = _ := nI_toInt (by omega)
  rw [e1] at u1
  have rC := x_daysC (l := l) (n := n) ⟨by omega, by omega⟩
  rw [← e1] at rC
  have rR := x_daysR (l := l) (n := n) ⟨by omega, by omega⟩
  rw [← e1] at rR
  refine And.intro (sv (k := 1) hj hL (by omega)) ?_
  refine callX (τ := τ) (xs := [(xs (f_add (nI (6 * j)) 1).toNatClampNeg)]) (rest := []) (a := 0) (ci := 10) (tm := tmO [1, 14, 19, 27, 29, 32, 35, 54, 39, 40]) (H := HL_R2) (H2 := HL_R2) hΦ trivial rC hh (fun K h => h) rfl rfl rfl (by decide +kernel) (by decide +kernel) (by decide +kernel) (by decide +kernel) (fun τ2 p2 p3 v h1 qv q2 => ?_)
  refine And.intro (sv (k := 1) hj hL (by omega)) ?_
  refine callX (τ := τ2) (xs := [(xs (f_add (nI (6 * j)) 1).toNatClampNeg)]) (rest := []) (a := 55) (ci := 11) (tm := tmO [57, 58, 63, 64, 65, 66, 67, 68, 69, 70, 78, 79, 80, 81, 83, 84, 85, 86]) (H := HL_R2) (H2 := HL_R2) p2 trivial rR q2 (fun K h => h) rfl rfl rfl (by decide +kernel) (by decide +kernel) (by decide +kernel) (by decide +kernel) (fun τ3 p4 p5 w h2 qw q4 => ?_)
  have qv : decA (τ2 206) 0 = dyF (decA (τ 206) 0) n := qv
  have qw : decA (τ3 208) 0 = dyF (decA (τ2 208) 0) n := qw
  have hz3 : RR τ3 := ⟨by rw [p5 206 rfl, qv, qw, p3 208 rfl, hz.1], by rw [p5 207 rfl, p3 207 rfl, p5 209 rfl, p3 209 rfl]; exact hz.2⟩
  exact K τ3 h2 p4 ⟨hz3, Or.inr (Or.inr q4)⟩

theorem g_law_days_R2 {l : Launch} {Ls : Nat} {xs : Nat → Int32} {c18 : Blk} {τ : Nat → List (Option Nat)} {h : PH} {j : Nat} (hΦ : Φ τ) (hz : RR τ) (hj : 6 * j + 6 ≤ Ls) (hL : Ls ≤ 3072) (hh : all2 (gC ρ0 τ) HL_R2 h) (K : ∀ (τ2 : Nat → List (Option Nat)) (h2 : PH), Φ τ2 → HH τ2 h2 → c18 [some (.inr (some (.inr []))), some (.inr (some (.inl 0))), some (.inr (some (.inl 55))), some (.inl (f_add (nI (6 * j)) 6))] [] h2) : b2_L_law_339 l Ls xs c18 [some (.inr (some (.inr []))), some (.inr (some (.inl 0))), some (.inr (some (.inl 55))), some (.inl (nI (6 * j)))] [] h := by
  by_cases hN : 1 ≤ (xs (f_add (nI (6 * j)) 1).toNatClampNeg) ∧ (xs (f_add (nI (6 * j)) 1).toNatClampNeg) ≤ 100
  · exact g_law_days_R2_y hΦ hz hj hL hh K hN
  · exact g_law_days_R2_n hΦ hz hj hL hh K hN

set_option maxRecDepth 100000 in
theorem g_law_tried_R2 {l : Launch} {Ls : Nat} {xs : Nat → Int32} {c18 : Blk} {τ : Nat → List (Option Nat)} {h : PH} {j : Nat} (hΦ : Φ τ) (hz : RR τ) (hj : 6 * j + 6 ≤ Ls) (hL : Ls ≤ 3072) (hh : all2 (gC ρ0 τ) HL_R2 h) (K : ∀ (τ2 : Nat → List (Option Nat)) (h2 : PH), Φ τ2 → HH τ2 h2 → c18 [some (.inr (some (.inr []))), some (.inr (some (.inl 0))), some (.inr (some (.inl 55))), some (.inl (f_add (nI (6 * j)) 6))] [] h2) : b2_L_law_362 l Ls xs c18 [some (.inr (some (.inr []))), some (.inr (some (.inl 0))), some (.inr (some (.inl 55))), some (.inl (nI (6 * j)))] [] h := by
  refine And.intro (sv (k := 1) hj hL (by omega)) ?_
  refine And.intro (sv (k := 2) hj hL (by omega)) ?_
  refine callT (τ := τ) (tm := tmO [1, 14, 27, 29, 32, 35, 54, 39, 40]) (A := [.inl (-2147483648, 2147483647), .inl (-2147483648, 2147483647), .inr (.inr (some (.inl 0)))]) (H := HL_R2) (Ts := [([.inl (-2147483648, 2147483647)], HL_R2)]) hΦ s_X11_tried ⟨topA_ok _, topA_ok _, rfl, trivial⟩ hh (by decide +kernel) (fun T hT st h1 q1 q2 => ?_)
  cases List.mem_singleton.mp hT
  obtain ⟨v, rfl, _⟩ := st1 q1
  refine And.intro (sv (k := 1) hj hL (by omega)) ?_
  refine And.intro (sv (k := 2) hj hL (by omega)) ?_
  refine callT (τ := τ) (tm := tmO [58, 63, 64, 65, 66, 67, 68, 69, 70, 78, 79, 80, 81, 83, 84, 85, 86]) (A := [.inl (-2147483648, 2147483647), .inl (-2147483648, 2147483647), .inr (.inr (some (.inl 55)))]) (H := HL_R2) (Ts := [([.inl (-2147483648, 2147483647)], HL_R2)]) hΦ s_X12_tried ⟨topA_ok _, topA_ok _, rfl, trivial⟩ q2 (by decide +kernel) (fun T hT st h2 q3 q4 => ?_)
  cases List.mem_singleton.mp hT
  obtain ⟨w, rfl, _⟩ := st1 q3
  exact K τ h2 hΦ ⟨hz, Or.inr (Or.inr q4)⟩

set_option maxRecDepth 100000 in
theorem g_law_letterIs_R2 {l : Launch} {Ls : Nat} {xs : Nat → Int32} {c18 : Blk} {τ : Nat → List (Option Nat)} {h : PH} {j : Nat} (hΦ : Φ τ) (hz : RR τ) (hj : 6 * j + 6 ≤ Ls) (hL : Ls ≤ 3072) (hh : all2 (gC ρ0 τ) HL_R2 h) (K : ∀ (τ2 : Nat → List (Option Nat)) (h2 : PH), Φ τ2 → HH τ2 h2 → c18 [some (.inr (some (.inr []))), some (.inr (some (.inl 0))), some (.inr (some (.inl 55))), some (.inl (f_add (nI (6 * j)) 6))] [] h2) : b2_L_law_395 l Ls xs c18 [some (.inr (some (.inr []))), some (.inr (some (.inl 0))), some (.inr (some (.inl 55))), some (.inl (nI (6 * j)))] [] h := by
  refine And.intro (sv (k := 1) hj hL (by omega)) ?_
  refine And.intro (sv (k := 2) hj hL (by omega)) ?_
  refine callT (τ := τ) (tm := tmO [1, 14, 19, 24, 27, 29, 32, 35, 54, 39, 47, 40]) (A := [.inl (-2147483648, 2147483647), .inl (-2147483648, 2147483647), .inr (.inr (some (.inl 0)))]) (H := HL_R2) (Ts := [([.inl (-2147483648, 2147483647)], HL_R2)]) hΦ s_X11_letterIs ⟨topA_ok _, topA_ok _, rfl, trivial⟩ hh (by decide +kernel) (fun T hT st h1 q1 q2 => ?_)
  cases List.mem_singleton.mp hT
  obtain ⟨v, rfl, _⟩ := st1 q1
  refine And.intro (sv (k := 1) hj hL (by omega)) ?_
  refine And.intro (sv (k := 2) hj hL (by omega)) ?_
  refine callT (τ := τ) (tm := tmO [57, 58, 62, 63, 64, 65, 66, 67, 68, 69, 70, 71, 72, 73, 74, 75, 76, 77, 78, 79, 80, 81, 82, 83, 84, 85, 86]) (A := [.inl (-2147483648, 2147483647), .inl (-2147483648, 2147483647), .inr (.inr (some (.inl 55)))]) (H := HL_R2) (Ts := [([.inl (-2147483648, 2147483647)], HL_R2)]) hΦ s_X12_letterIs ⟨topA_ok _, topA_ok _, rfl, trivial⟩ q2 (by decide +kernel) (fun T hT st h2 q3 q4 => ?_)
  cases List.mem_singleton.mp hT
  obtain ⟨w, rfl, _⟩ := st1 q3
  exact K τ h2 hΦ ⟨hz, Or.inr (Or.inr q4)⟩

set_option maxRecDepth 100000 in
theorem g_law_stampIs_R2 {l : Launch} {Ls : Nat} {xs : Nat → Int32} {c18 : Blk} {τ : Nat → List (Option Nat)} {h : PH} {j : Nat} (hΦ : Φ τ) (hz : RR τ) (hj : 6 * j + 6 ≤ Ls) (hL : Ls ≤ 3072) (hh : all2 (gC ρ0 τ) HL_R2 h) (K : ∀ (τ2 : Nat → List (Option Nat)) (h2 : PH), Φ τ2 → HH τ2 h2 → c18 [some (.inr (some (.inr []))), some (.inr (some (.inl 0))), some (.inr (some (.inl 55))), some (.inl (f_add (nI (6 * j)) 6))] [] h2) : b2_L_law_428 l Ls xs c18 [some (.inr (some (.inr []))), some (.inr (some (.inl 0))), some (.inr (some (.inl 55))), some (.inl (nI (6 * j)))] [] h := by
  refine And.intro (sv (k := 1) hj hL (by omega)) ?_
  refine And.intro (sv (k := 2) hj hL (by omega)) ?_
  refine callT (τ := τ) (tm := tmO [1, 14, 19, 24, 27, 29, 32, 35, 54, 39, 47, 40]) (A := [.inl (-2147483648, 2147483647), .inl (-2147483648, 2147483647), .inr (.inr (some (.inl 0)))]) (H := HL_R2) (Ts := [([.inl (-2147483648, 2147483647)], HL_R2)]) hΦ s_X11_stampIs ⟨topA_ok _, topA_ok _, rfl, trivial⟩ hh (by decide +kernel) (fun T hT st h1 q1 q2 => ?_)
  cases List.mem_singleton.mp hT
  obtain ⟨v, rfl, _⟩ := st1 q1
  refine And.intro (sv (k := 1) hj hL (by omega)) ?_
  refine And.intro (sv (k := 2) hj hL (by omega)) ?_
  refine callT (τ := τ) (tm := tmO [57, 58, 59, 62, 63, 64, 65, 66, 67, 68, 69, 70, 71, 72, 73, 74, 75, 76, 77, 78, 79, 80, 81, 82, 83, 84, 85, 86]) (A := [.inl (-2147483648, 2147483647), .inl (-2147483648, 2147483647), .inr (.inr (some (.inl 55)))]) (H := HL_R2) (Ts := [([.inl (-2147483648, 2147483647)], HL_R2)]) hΦ s_X12_stampIs ⟨topA_ok _, topA_ok _, rfl, trivial⟩ q2 (by decide +kernel) (fun T hT st h2 q3 q4 => ?_)
  cases List.mem_singleton.mp hT
  obtain ⟨w, rfl, _⟩ := st1 q3
  exact K τ h2 hΦ ⟨hz, Or.inr (Or.inr q4)⟩

set_option maxRecDepth 100000 in
theorem g_law_comes_R2 {l : Launch} {Ls : Nat} {xs : Nat → Int32} {c18 : Blk} {τ : Nat → List (Option Nat)} {h : PH} {j : Nat} (hΦ : Φ τ) (hz : RR τ) (hj : 6 * j + 6 ≤ Ls) (hL : Ls ≤ 3072) (hh : all2 (gC ρ0 τ) HL_R2 h) (K : ∀ (τ2 : Nat → List (Option Nat)) (h2 : PH), Φ τ2 → HH τ2 h2 → c18 [some (.inr (some (.inr []))), some (.inr (some (.inl 0))), some (.inr (some (.inl 55))), some (.inl (f_add (nI (6 * j)) 6))] [] h2) : b2_L_law_461 l Ls xs c18 [some (.inr (some (.inr []))), some (.inr (some (.inl 0))), some (.inr (some (.inl 55))), some (.inl (nI (6 * j)))] [] h := by
  refine And.intro (sv (k := 1) hj hL (by omega)) ?_
  refine And.intro (sv (k := 2) hj hL (by omega)) ?_
  refine And.intro (sv (k := 3) hj hL (by omega)) ?_
  refine callT (τ := τ) (tm := tmO [1, 14, 27, 29, 32, 35, 54, 39, 40]) (A := [.inl (-2147483648, 2147483647), .inl (-2147483648, 2147483647), .inl (-2147483648, 2147483647), .inr (.inr (some (.inl 0)))]) (H := HL_R2) (Ts := [([.inl (-2147483648, 2147483647)], HL_R2)]) hΦ s_X11_comes ⟨topA_ok _, topA_ok _, topA_ok _, rfl, trivial⟩ hh (by decide +kernel) (fun T hT st h1 q1 q2 => ?_)
  cases List.mem_singleton.mp hT
  obtain ⟨v, rfl, _⟩ := st1 q1
  refine And.intro (sv (k := 1) hj hL (by omega)) ?_
  refine And.intro (sv (k := 2) hj hL (by omega)) ?_
  refine And.intro (sv (k := 3) hj hL (by omega)) ?_
  refine callT (τ := τ) (tm := tmO [58, 63, 64, 65, 66, 67, 68, 69, 70, 78, 79, 80, 81, 83, 84, 85, 86]) (A := [.inl (-2147483648, 2147483647), .inl (-2147483648, 2147483647), .inl (-2147483648, 2147483647), .inr (.inr (some (.inl 55)))]) (H := HL_R2) (Ts := [([.inl (-2147483648, 2147483647)], HL_R2)]) hΦ s_X12_comes ⟨topA_ok _, topA_ok _, topA_ok _, rfl, trivial⟩ q2 (by decide +kernel) (fun T hT st h2 q3 q4 => ?_)
  cases List.mem_singleton.mp hT
  obtain ⟨w, rfl, _⟩ := st1 q3
  exact K τ h2 hΦ ⟨hz, Or.inr (Or.inr q4)⟩

set_option maxRecDepth 100000 in
theorem g_law_atRest_R2 {l : Launch} {Ls : Nat} {xs : Nat → Int32} {c18 : Blk} {τ : Nat → List (Option Nat)} {h : PH} {j : Nat} (hΦ : Φ τ) (hz : RR τ) (hj : 6 * j + 6 ≤ Ls) (hL : Ls ≤ 3072) (hh : all2 (gC ρ0 τ) HL_R2 h) (K : ∀ (τ2 : Nat → List (Option Nat)) (h2 : PH), Φ τ2 → HH τ2 h2 → c18 [some (.inr (some (.inr []))), some (.inr (some (.inl 0))), some (.inr (some (.inl 55))), some (.inl (f_add (nI (6 * j)) 6))] [] h2) : b2_L_law_504 l Ls xs c18 [some (.inr (some (.inr []))), some (.inr (some (.inl 0))), some (.inr (some (.inl 55))), some (.inl (nI (6 * j)))] [] h := by
  refine And.intro (sv (k := 1) hj hL (by omega)) ?_
  refine And.intro (sv (k := 2) hj hL (by omega)) ?_
  refine callT (τ := τ) (tm := tmO [1, 14, 27, 29, 32, 35, 54, 39, 40]) (A := [.inl (-2147483648, 2147483647), .inl (-2147483648, 2147483647), .inr (.inr (some (.inl 0)))]) (H := HL_R2) (Ts := [([.inl (-2147483648, 2147483647)], HL_R2)]) hΦ s_X11_atRest ⟨topA_ok _, topA_ok _, rfl, trivial⟩ hh (by decide +kernel) (fun T hT st h1 q1 q2 => ?_)
  cases List.mem_singleton.mp hT
  obtain ⟨v, rfl, _⟩ := st1 q1
  refine And.intro (sv (k := 1) hj hL (by omega)) ?_
  refine And.intro (sv (k := 2) hj hL (by omega)) ?_
  refine callT (τ := τ) (tm := tmO [58, 63, 64, 65, 66, 67, 68, 69, 70, 78, 79, 80, 81, 83, 84, 85, 86]) (A := [.inl (-2147483648, 2147483647), .inl (-2147483648, 2147483647), .inr (.inr (some (.inl 55)))]) (H := HL_R2) (Ts := [([.inl (-2147483648, 2147483647)], HL_R2)]) hΦ s_X12_atRest ⟨topA_ok _, topA_ok _, rfl, trivial⟩ q2 (by decide +kernel) (fun T hT st h2 q3 q4 => ?_)
  cases List.mem_singleton.mp hT
  obtain ⟨w, rfl, _⟩ := st1 q3
  exact K τ h2 hΦ ⟨hz, Or.inr (Or.inr q4)⟩

set_option maxRecDepth 100000 in
theorem g_law_meet_R2 {l : Launch} {Ls : Nat} {xs : Nat → Int32} {c18 : Blk} {τ : Nat → List (Option Nat)} {h : PH} {j : Nat} (hΦ : Φ τ) (hz : RR τ) (hj : 6 * j + 6 ≤ Ls) (hL : Ls ≤ 3072) (hh : all2 (gC ρ0 τ) HL_R2 h) (K : ∀ (τ2 : Nat → List (Option Nat)) (h2 : PH), Φ τ2 → HH τ2 h2 → c18 [some (.inr (some (.inr []))), some (.inr (some (.inl 0))), some (.inr (some (.inl 55))), some (.inl (f_add (nI (6 * j)) 6))] [] h2) : b2_L_law_537 l Ls xs c18 [some (.inr (some (.inr []))), some (.inr (some (.inl 0))), some (.inr (some (.inl 55))), some (.inl (nI (6 * j)))] [] h := by
  refine And.intro (sv (k := 1) hj hL (by omega)) ?_
  refine And.intro (sv (k := 2) hj hL (by omega)) ?_
  refine And.intro (sv (k := 3) hj hL (by omega)) ?_
  refine callT (τ := τ) (tm := tmO [1, 14, 27, 29, 32, 35, 54, 39, 40]) (A := [.inl (-2147483648, 2147483647), .inl (-2147483648, 2147483647), .inl (-2147483648, 2147483647), .inr (.inr (some (.inl 0)))]) (H := HL_R2) (Ts := [([.inl (-2147483648, 2147483647)], HL_R2)]) hΦ s_X11_meet ⟨topA_ok _, topA_ok _, topA_ok _, rfl, trivial⟩ hh (by decide +kernel) (fun T hT st h1 q1 q2 => ?_)
  cases List.mem_singleton.mp hT
  obtain ⟨v, rfl, _⟩ := st1 q1
  refine And.intro (sv (k := 1) hj hL (by omega)) ?_
  refine And.intro (sv (k := 2) hj hL (by omega)) ?_
  refine And.intro (sv (k := 3) hj hL (by omega)) ?_
  refine callT (τ := τ) (tm := tmO [58, 63, 64, 65, 66, 67, 68, 69, 70, 78, 79, 80, 81, 83, 84, 85, 86]) (A := [.inl (-2147483648, 2147483647), .inl (-2147483648, 2147483647), .inl (-2147483648, 2147483647), .inr (.inr (some (.inl 55)))]) (H := HL_R2) (Ts := [([.inl (-2147483648, 2147483647)], HL_R2)]) hΦ s_X12_meet ⟨topA_ok _, topA_ok _, topA_ok _, rfl, trivial⟩ q2 (by decide +kernel) (fun T hT st h2 q3 q4 => ?_)
  cases List.mem_singleton.mp hT
  obtain ⟨w, rfl, _⟩ := st1 q3
  exact K τ h2 hΦ ⟨hz, Or.inr (Or.inr q4)⟩

set_option maxRecDepth 100000 in
theorem g_law_again_R2 {l : Launch} {Ls : Nat} {xs : Nat → Int32} {c18 : Blk} {τ : Nat → List (Option Nat)} {h : PH} {j : Nat} (hΦ : Φ τ) (hz : RR τ) (hj : 6 * j + 6 ≤ Ls) (hL : Ls ≤ 3072) (hh : all2 (gC ρ0 τ) HL_R2 h) (K : ∀ (τ2 : Nat → List (Option Nat)) (h2 : PH), Φ τ2 → HH τ2 h2 → c18 [some (.inr (some (.inr []))), some (.inr (some (.inl 0))), some (.inr (some (.inl 55))), some (.inl (f_add (nI (6 * j)) 6))] [] h2) : b2_L_law_580 l Ls xs c18 [some (.inr (some (.inr []))), some (.inr (some (.inl 0))), some (.inr (some (.inl 55))), some (.inl (nI (6 * j)))] [] h := by
  refine And.intro (sv (k := 1) hj hL (by omega)) ?_
  refine And.intro (sv (k := 2) hj hL (by omega)) ?_
  refine callT (τ := τ) (tm := tmO [1, 14, 27, 29, 32, 35, 54, 40]) (A := [.inl (-2147483648, 2147483647), .inl (-2147483648, 2147483647), .inr (.inr (some (.inl 0)))]) (H := HL_R2) (Ts := [([.inl (-2147483648, 2147483647)], HL_R2)]) hΦ s_X11_again ⟨topA_ok _, topA_ok _, rfl, trivial⟩ hh (by decide +kernel) (fun T hT st h1 q1 q2 => ?_)
  cases List.mem_singleton.mp hT
  obtain ⟨v, rfl, _⟩ := st1 q1
  refine And.intro (sv (k := 1) hj hL (by omega)) ?_
  refine And.intro (sv (k := 2) hj hL (by omega)) ?_
  refine callT (τ := τ) (tm := tmO [58, 63, 64, 65, 66, 67, 68, 69, 70, 78, 79, 80, 81, 84, 85, 86]) (A := [.inl (-2147483648, 2147483647), .inl (-2147483648, 2147483647), .inr (.inr (some (.inl 55)))]) (H := HL_R2) (Ts := [([.inl (-2147483648, 2147483647)], HL_R2)]) hΦ s_X12_again ⟨topA_ok _, topA_ok _, rfl, trivial⟩ q2 (by decide +kernel) (fun T hT st h2 q3 q4 => ?_)
  cases List.mem_singleton.mp hT
  obtain ⟨w, rfl, _⟩ := st1 q3
  exact K τ h2 hΦ ⟨hz, Or.inr (Or.inr q4)⟩

set_option maxRecDepth 100000 in
theorem g_law_home_R2 {l : Launch} {Ls : Nat} {xs : Nat → Int32} {c18 : Blk} {τ : Nat → List (Option Nat)} {h : PH} {j : Nat} (hΦ : Φ τ) (hz : RR τ) (hj : 6 * j + 6 ≤ Ls) (hL : Ls ≤ 3072) (hh : all2 (gC ρ0 τ) HL_R2 h) (K : ∀ (τ2 : Nat → List (Option Nat)) (h2 : PH), Φ τ2 → HH τ2 h2 → c18 [some (.inr (some (.inr []))), some (.inr (some (.inl 0))), some (.inr (some (.inl 55))), some (.inl (f_add (nI (6 * j)) 6))] [] h2) : b2_L_law_613 l Ls xs c18 [some (.inr (some (.inr []))), some (.inr (some (.inl 0))), some (.inr (some (.inl 55))), some (.inl (nI (6 * j)))] [] h := by
  refine And.intro (sv (k := 1) hj hL (by omega)) ?_
  refine And.intro (sv (k := 2) hj hL (by omega)) ?_
  refine callT (τ := τ) (tm := tmO [1, 14, 19, 24, 27, 29, 32, 35, 54, 39, 47, 40]) (A := [.inl (-2147483648, 2147483647), .inl (-2147483648, 2147483647), .inr (.inr (some (.inl 0)))]) (H := HL_R2) (Ts := [([.inl (-2147483648, 2147483647)], HL_R2)]) hΦ s_X11_home ⟨topA_ok _, topA_ok _, rfl, trivial⟩ hh (by decide +kernel) (fun T hT st h1 q1 q2 => ?_)
  cases List.mem_singleton.mp hT
  obtain ⟨v, rfl, _⟩ := st1 q1
  refine And.intro (sv (k := 1) hj hL (by omega)) ?_
  refine And.intro (sv (k := 2) hj hL (by omega)) ?_
  refine callT (τ := τ) (tm := tmO [57, 58, 59, 62, 63, 64, 65, 66, 67, 68, 69, 70, 71, 72, 73, 74, 75, 76, 77, 78, 79, 80, 81, 82, 83, 84, 85, 86]) (A := [.inl (-2147483648, 2147483647), .inl (-2147483648, 2147483647), .inr (.inr (some (.inl 55)))]) (H := HL_R2) (Ts := [([.inl (-2147483648, 2147483647)], HL_R2)]) hΦ s_X12_home ⟨topA_ok _, topA_ok _, rfl, trivial⟩ q2 (by decide +kernel) (fun T hT st h2 q3 q4 => ?_)
  cases List.mem_singleton.mp hT
  obtain ⟨w, rfl, _⟩ := st1 q3
  exact K τ h2 hΦ ⟨hz, Or.inr (Or.inr q4)⟩

set_option maxRecDepth 100000 in
theorem g_law_lying_R2 {l : Launch} {Ls : Nat} {xs : Nat → Int32} {c18 : Blk} {τ : Nat → List (Option Nat)} {h : PH} {j : Nat} (hΦ : Φ τ) (hz : RR τ) (hj : 6 * j + 6 ≤ Ls) (hL : Ls ≤ 3072) (hh : all2 (gC ρ0 τ) HL_R2 h) (K : ∀ (τ2 : Nat → List (Option Nat)) (h2 : PH), Φ τ2 → HH τ2 h2 → c18 [some (.inr (some (.inr []))), some (.inr (some (.inl 0))), some (.inr (some (.inl 55))), some (.inl (f_add (nI (6 * j)) 6))] [] h2) : b2_L_law_646 l Ls xs c18 [some (.inr (some (.inr []))), some (.inr (some (.inl 0))), some (.inr (some (.inl 55))), some (.inl (nI (6 * j)))] [] h := by
  refine And.intro (sv (k := 1) hj hL (by omega)) ?_
  refine callT (τ := τ) (tm := tmO [1, 3, 14, 19, 24, 27, 29, 32, 35, 54, 39, 47, 40]) (A := [.inl (-2147483648, 2147483647), .inr (.inr (some (.inl 0)))]) (H := HL_R2) (Ts := [([.inl (-2147483648, 2147483647)], HL_R2)]) hΦ s_X11_lying ⟨topA_ok _, rfl, trivial⟩ hh (by decide +kernel) (fun T hT st h1 q1 q2 => ?_)
  cases List.mem_singleton.mp hT
  obtain ⟨v, rfl, _⟩ := st1 q1
  refine And.intro (sv (k := 1) hj hL (by omega)) ?_
  refine callT (τ := τ) (tm := tmO [57, 58, 59, 60, 61, 62, 63, 64, 65, 66, 67, 68, 69, 70, 71, 72, 73, 74, 75, 76, 77, 78, 79, 80, 81, 82, 83, 84, 85, 86]) (A := [.inl (-2147483648, 2147483647), .inr (.inr (some (.inl 55)))]) (H := HL_R2) (Ts := [([.inl (-2147483648, 2147483647)], HL_R2)]) hΦ s_X12_lying ⟨topA_ok _, rfl, trivial⟩ q2 (by decide +kernel) (fun T hT st h2 q3 q4 => ?_)
  cases List.mem_singleton.mp hT
  obtain ⟨w, rfl, _⟩ := st1 q3
  exact K τ h2 hΦ ⟨hz, Or.inr (Or.inr q4)⟩

set_option maxRecDepth 100000 in
theorem g_law_stamped_R2 {l : Launch} {Ls : Nat} {xs : Nat → Int32} {c18 : Blk} {τ : Nat → List (Option Nat)} {h : PH} {j : Nat} (hΦ : Φ τ) (hz : RR τ) (hj : 6 * j + 6 ≤ Ls) (hL : Ls ≤ 3072) (hh : all2 (gC ρ0 τ) HL_R2 h) (K : ∀ (τ2 : Nat → List (Option Nat)) (h2 : PH), Φ τ2 → HH τ2 h2 → c18 [some (.inr (some (.inr []))), some (.inr (some (.inl 0))), some (.inr (some (.inl 55))), some (.inl (f_add (nI (6 * j)) 6))] [] h2) : b2_L_law_669 l Ls xs c18 [some (.inr (some (.inr []))), some (.inr (some (.inl 0))), some (.inr (some (.inl 55))), some (.inl (nI (6 * j)))] [] h := by
  refine And.intro (sv (k := 1) hj hL (by omega)) ?_
  refine And.intro (sv (k := 2) hj hL (by omega)) ?_
  refine And.intro (sv (k := 3) hj hL (by omega)) ?_
  refine And.intro (sv (k := 4) hj hL (by omega)) ?_
  refine And.intro (sv (k := 5) hj hL (by omega)) ?_
  refine callT (τ := τ) (tm := tmO [9, 14, 19, 24, 29, 32, 35, 54, 39, 47, 40]) (A := [.inl (-2147483648, 2147483647), .inl (-2147483648, 2147483647), .inl (-2147483648, 2147483647), .inl (-2147483648, 2147483647), .inl (-2147483648, 2147483647), .inr (.inr (some (.inl 0)))]) (H := HL_R2) (Ts := [([.inl (-2147483648, 2147483647)], HL_R2)]) hΦ s_X11_stamped ⟨topA_ok _, topA_ok _, topA_ok _, topA_ok _, topA_ok _, rfl, trivial⟩ hh (by decide +kernel) (fun T hT st h1 q1 q2 => ?_)
  cases List.mem_singleton.mp hT
  obtain ⟨v, rfl, _⟩ := st1 q1
  refine And.intro (sv (k := 1) hj hL (by omega)) ?_
  refine And.intro (sv (k := 2) hj hL (by omega)) ?_
  refine And.intro (sv (k := 3) hj hL (by omega)) ?_
  refine And.intro (sv (k := 4) hj hL (by omega)) ?_
  refine And.intro (sv (k := 5) hj hL (by omega)) ?_
  refine callT (τ := τ) (tm := tmO [56, 57, 58, 63, 65, 66, 67, 68, 69, 70, 71, 72, 73, 74, 75, 76, 77, 78, 79, 80, 81, 82, 83, 85, 86]) (A := [.inl (-2147483648, 2147483647), .inl (-2147483648, 2147483647), .inl (-2147483648, 2147483647), .inl (-2147483648, 2147483647), .inl (-2147483648, 2147483647), .inr (.inr (some (.inl 55)))]) (H := HL_R2) (Ts := [([.inl (-2147483648, 2147483647)], HL_R2)]) hΦ s_X12_stamped ⟨topA_ok _, topA_ok _, topA_ok _, topA_ok _, topA_ok _, rfl, trivial⟩ q2 (by decide +kernel) (fun T hT st h2 q3 q4 => ?_)
  cases List.mem_singleton.mp hT
  obtain ⟨w, rfl, _⟩ := st1 q3
  exact K τ h2 hΦ ⟨hz, Or.inr (Or.inr q4)⟩

set_option maxRecDepth 100000 in
theorem g_law_hang_R2 {l : Launch} {Ls : Nat} {xs : Nat → Int32} {c18 : Blk} {τ : Nat → List (Option Nat)} {h : PH} {j : Nat} (hΦ : Φ τ) (hz : RR τ) (hj : 6 * j + 6 ≤ Ls) (hL : Ls ≤ 3072) (hh : all2 (gC ρ0 τ) HL_R2 h) (K : ∀ (τ2 : Nat → List (Option Nat)) (h2 : PH), Φ τ2 → HH τ2 h2 → c18 [some (.inr (some (.inr []))), some (.inr (some (.inl 0))), some (.inr (some (.inl 55))), some (.inl (f_add (nI (6 * j)) 6))] [] h2) : b2_L_law_732 l Ls xs c18 [some (.inr (some (.inr []))), some (.inr (some (.inl 0))), some (.inr (some (.inl 55))), some (.inl (nI (6 * j)))] [] h := by
  refine And.intro (sv (k := 1) hj hL (by omega)) ?_
  refine And.intro (sv (k := 2) hj hL (by omega)) ?_
  refine And.intro (sv (k := 3) hj hL (by omega)) ?_
  refine callT (τ := τ) (tm := tmO [9, 14, 19, 24, 29, 32, 35, 54, 39, 47, 40]) (A := [.inl (-2147483648, 2147483647), .inl (-2147483648, 2147483647), .inl (-2147483648, 2147483647), .inr (.inr (some (.inl 0)))]) (H := HL_R2) (Ts := [([.inl (-2147483648, 2147483647)], HL_R2)]) hΦ s_X11_hang ⟨topA_ok _, topA_ok _, topA_ok _, rfl, trivial⟩ hh (by decide +kernel) (fun T hT st h1 q1 q2 => ?_)
  cases List.mem_singleton.mp hT
  obtain ⟨v, rfl, _⟩ := st1 q1
  refine And.intro (sv (k := 1) hj hL (by omega)) ?_
  refine And.intro (sv (k := 2) hj hL (by omega)) ?_
  refine And.intro (sv (k := 3) hj hL (by omega)) ?_
  refine callT (τ := τ) (tm := tmO [56, 57, 58, 62, 63, 65, 66, 67, 68, 69, 70, 71, 72, 73, 74, 75, 76, 77, 78, 79, 80, 81, 82, 83, 85, 86]) (A := [.inl (-2147483648, 2147483647), .inl (-2147483648, 2147483647), .inl (-2147483648, 2147483647), .inr (.inr (some (.inl 55)))]) (H := HL_R2) (Ts := [([.inl (-2147483648, 2147483647)], HL_R2)]) hΦ s_X12_hang ⟨topA_ok _, topA_ok _, topA_ok _, rfl, trivial⟩ q2 (by decide +kernel) (fun T hT st h2 q3 q4 => ?_)
  cases List.mem_singleton.mp hT
  obtain ⟨w, rfl, _⟩ := st1 q3
  exact K τ h2 hΦ ⟨hz, Or.inr (Or.inr q4)⟩

set_option maxRecDepth 100000 in
theorem g_law_falseOnes_R2 {l : Launch} {Ls : Nat} {xs : Nat → Int32} {c18 : Blk} {τ : Nat → List (Option Nat)} {h : PH} {j : Nat} (hΦ : Φ τ) (hz : RR τ) (hj : 6 * j + 6 ≤ Ls) (hL : Ls ≤ 3072) (hh : all2 (gC ρ0 τ) HL_R2 h) (K : ∀ (τ2 : Nat → List (Option Nat)) (h2 : PH), Φ τ2 → HH τ2 h2 → c18 [some (.inr (some (.inr []))), some (.inr (some (.inl 0))), some (.inr (some (.inl 55))), some (.inl (f_add (nI (6 * j)) 6))] [] h2) : b2_L_law_775 l Ls xs c18 [some (.inr (some (.inr []))), some (.inr (some (.inl 0))), some (.inr (some (.inl 55))), some (.inl (nI (6 * j)))] [] h := by
  refine And.intro (sv (k := 1) hj hL (by omega)) ?_
  refine And.intro (sv (k := 2) hj hL (by omega)) ?_
  refine And.intro (sv (k := 3) hj hL (by omega)) ?_
  refine And.intro (sv (k := 4) hj hL (by omega)) ?_
  refine And.intro (sv (k := 5) hj hL (by omega)) ?_
  refine callT (τ := τ) (tm := tmO [9, 14, 19, 24, 29, 32, 35, 54, 39, 47, 40]) (A := [.inl (-2147483648, 2147483647), .inl (-2147483648, 2147483647), .inl (-2147483648, 2147483647), .inl (-2147483648, 2147483647), .inl (-2147483648, 2147483647), .inr (.inr (some (.inl 0)))]) (H := HL_R2) (Ts := [([.inl (-2147483648, 2147483647)], HL_R2)]) hΦ s_X11_falseOnes ⟨topA_ok _, topA_ok _, topA_ok _, topA_ok _, topA_ok _, rfl, trivial⟩ hh (by decide +kernel) (fun T hT st h1 q1 q2 => ?_)
  cases List.mem_singleton.mp hT
  obtain ⟨v, rfl, _⟩ := st1 q1
  refine And.intro (sv (k := 1) hj hL (by omega)) ?_
  refine And.intro (sv (k := 2) hj hL (by omega)) ?_
  refine And.intro (sv (k := 3) hj hL (by omega)) ?_
  refine And.intro (sv (k := 4) hj hL (by omega)) ?_
  refine And.intro (sv (k := 5) hj hL (by omega)) ?_
  refine callT (τ := τ) (tm := tmO [56, 57, 58, 62, 63, 65, 66, 67, 68, 69, 70, 71, 72, 73, 74, 75, 76, 77, 78, 79, 80, 81, 82, 83, 85, 86]) (A := [.inl (-2147483648, 2147483647), .inl (-2147483648, 2147483647), .inl (-2147483648, 2147483647), .inl (-2147483648, 2147483647), .inl (-2147483648, 2147483647), .inr (.inr (some (.inl 55)))]) (H := HL_R2) (Ts := [([.inl (-2147483648, 2147483647)], HL_R2)]) hΦ s_X12_falseOnes ⟨topA_ok _, topA_ok _, topA_ok _, topA_ok _, topA_ok _, rfl, trivial⟩ q2 (by decide +kernel) (fun T hT st h2 q3 q4 => ?_)
  cases List.mem_singleton.mp hT
  obtain ⟨w, rfl, _⟩ := st1 q3
  exact K τ h2 hΦ ⟨hz, Or.inr (Or.inr q4)⟩

set_option maxRecDepth 100000 in
theorem g_law_printed_R2 {l : Launch} {Ls : Nat} {xs : Nat → Int32} {c18 : Blk} {τ : Nat → List (Option Nat)} {h : PH} {j : Nat} (hΦ : Φ τ) (hz : RR τ) (hj : 6 * j + 6 ≤ Ls) (hL : Ls ≤ 3072) (hh : all2 (gC ρ0 τ) HL_R2 h) (K : ∀ (τ2 : Nat → List (Option Nat)) (h2 : PH), Φ τ2 → HH τ2 h2 → c18 [some (.inr (some (.inr []))), some (.inr (some (.inl 0))), some (.inr (some (.inl 55))), some (.inl (f_add (nI (6 * j)) 6))] [] h2) : b2_L_law_838 l Ls xs c18 [some (.inr (some (.inr []))), some (.inr (some (.inl 0))), some (.inr (some (.inl 55))), some (.inl (nI (6 * j)))] [] h := by
  refine And.intro (sv (k := 1) hj hL (by omega)) ?_
  refine callT (τ := τ) (tm := tmO [9, 14, 19, 24, 27, 29, 32, 35, 54, 39, 47, 40]) (A := [.inl (-2147483648, 2147483647), .inr (.inr (some (.inl 0)))]) (H := HL_R2) (Ts := [([.inl (-2147483648, 2147483647)], HL_R2)]) hΦ s_X11_printed ⟨topA_ok _, rfl, trivial⟩ hh (by decide +kernel) (fun T hT st h1 q1 q2 => ?_)
  cases List.mem_singleton.mp hT
  obtain ⟨v, rfl, _⟩ := st1 q1
  refine And.intro (sv (k := 1) hj hL (by omega)) ?_
  refine callT (τ := τ) (tm := tmO [56, 57, 58, 60, 61, 62, 63, 65, 66, 67, 68, 69, 70, 71, 72, 73, 74, 75, 76, 77, 78, 79, 80, 81, 82, 83, 84, 85, 86]) (A := [.inl (-2147483648, 2147483647), .inr (.inr (some (.inl 55)))]) (H := HL_R2) (Ts := [([.inl (-2147483648, 2147483647)], HL_R2)]) hΦ s_X12_printed ⟨topA_ok _, rfl, trivial⟩ q2 (by decide +kernel) (fun T hT st h2 q3 q4 => ?_)
  cases List.mem_singleton.mp hT
  obtain ⟨w, rfl, _⟩ := st1 q3
  exact K τ h2 hΦ ⟨hz, Or.inr (Or.inr q4)⟩

set_option maxRecDepth 100000 in
theorem g_law_ship_R2 {l : Launch} {Ls : Nat} {xs : Nat → Int32} {c18 : Blk} {τ : Nat → List (Option Nat)} {h : PH} {j : Nat} (hΦ : Φ τ) (hz : RR τ) (hj : 6 * j + 6 ≤ Ls) (hL : Ls ≤ 3072) (hh : all2 (gC ρ0 τ) HL_R2 h) (K : ∀ (τ2 : Nat → List (Option Nat)) (h2 : PH), Φ τ2 → HH τ2 h2 → c18 [some (.inr (some (.inr []))), some (.inr (some (.inl 0))), some (.inr (some (.inl 55))), some (.inl (f_add (nI (6 * j)) 6))] [] h2) : b2_L_law_861 l Ls xs c18 [some (.inr (some (.inr []))), some (.inr (some (.inl 0))), some (.inr (some (.inl 55))), some (.inl (nI (6 * j)))] [] h := by
  refine And.intro (sv (k := 1) hj hL (by omega)) ?_
  refine And.intro (sv (k := 2) hj hL (by omega)) ?_
  refine callT (τ := τ) (tm := tmO [3, 9, 14, 19, 24, 27, 32, 35, 54, 39, 47, 40]) (A := [.inl (-2147483648, 2147483647), .inl (-2147483648, 2147483647), .inr (.inr (some (.inl 0)))]) (H := HL_R2) (Ts := [([.inl (-2147483648, 2147483647)], HL_R2)]) hΦ s_X11_ship ⟨topA_ok _, topA_ok _, rfl, trivial⟩ hh (by decide +kernel) (fun T hT st h1 q1 q2 => ?_)
  cases List.mem_singleton.mp hT
  obtain ⟨v, rfl, _⟩ := st1 q1
  refine And.intro (sv (k := 1) hj hL (by omega)) ?_
  refine And.intro (sv (k := 2) hj hL (by omega)) ?_
  refine callT (τ := τ) (tm := tmO [56, 57, 58, 59, 60, 61, 62, 63, 65, 66, 67, 68, 69, 70, 71, 72, 73, 74, 75, 76, 77, 78, 79, 80, 81, 82, 83, 84, 85, 86]) (A := [.inl (-2147483648, 2147483647), .inl (-2147483648, 2147483647), .inr (.inr (some (.inl 55)))]) (H := HL_R2) (Ts := [([.inl (-2147483648, 2147483647)], HL_R2)]) hΦ s_X12_ship ⟨topA_ok _, topA_ok _, rfl, trivial⟩ q2 (by decide +kernel) (fun T hT st h2 q3 q4 => ?_)
  cases List.mem_singleton.mp hT
  obtain ⟨w, rfl, _⟩ := st1 q3
  exact K τ h2 hΦ ⟨hz, Or.inr (Or.inr q4)⟩

set_option maxRecDepth 100000 in
theorem g_law_mule_R2 {l : Launch} {Ls : Nat} {xs : Nat → Int32} {c18 : Blk} {τ : Nat → List (Option Nat)} {h : PH} {j : Nat} (hΦ : Φ τ) (hz : RR τ) (hj : 6 * j + 6 ≤ Ls) (hL : Ls ≤ 3072) (hh : all2 (gC ρ0 τ) HL_R2 h) (K : ∀ (τ2 : Nat → List (Option Nat)) (h2 : PH), Φ τ2 → HH τ2 h2 → c18 [some (.inr (some (.inr []))), some (.inr (some (.inl 0))), some (.inr (some (.inl 55))), some (.inl (f_add (nI (6 * j)) 6))] [] h2) : b2_L_law_894 l Ls xs c18 [some (.inr (some (.inr []))), some (.inr (some (.inl 0))), some (.inr (some (.inl 55))), some (.inl (nI (6 * j)))] [] h := by
  refine And.intro (sv (k := 1) hj hL (by omega)) ?_
  refine And.intro (sv (k := 2) hj hL (by omega)) ?_
  refine And.intro (sv (k := 3) hj hL (by omega)) ?_
  refine callT (τ := τ) (tm := tmO [3, 9, 14, 19, 24, 27, 32, 35, 54, 39, 47, 40]) (A := [.inl (-2147483648, 2147483647), .inl (-2147483648, 2147483647), .inl (-2147483648, 2147483647), .inr (.inr (some (.inl 0)))]) (H := HL_R2) (Ts := [([.inl (-2147483648, 2147483647)], HL_R2)]) hΦ s_X11_mule ⟨topA_ok _, topA_ok _, topA_ok _, rfl, trivial⟩ hh (by decide +kernel) (fun T hT st h1 q1 q2 => ?_)
  cases List.mem_singleton.mp hT
  obtain ⟨v, rfl, _⟩ := st1 q1
  refine And.intro (sv (k := 1) hj hL (by omega)) ?_
  refine And.intro (sv (k := 2) hj hL (by omega)) ?_
  refine And.intro (sv (k := 3) hj hL (by omega)) ?_
  refine callT (τ := τ) (tm := tmO [56, 57, 58, 59, 60, 61, 62, 63, 65, 66, 67, 68, 69, 70, 71, 72, 73, 74, 75, 76, 77, 78, 79, 80, 81, 82, 83, 84, 85, 86]) (A := [.inl (-2147483648, 2147483647), .inl (-2147483648, 2147483647), .inl (-2147483648, 2147483647), .inr (.inr (some (.inl 55)))]) (H := HL_R2) (Ts := [([.inl (-2147483648, 2147483647)], HL_R2)]) hΦ s_X12_mule ⟨topA_ok _, topA_ok _, topA_ok _, rfl, trivial⟩ q2 (by decide +kernel) (fun T hT st h2 q3 q4 => ?_)
  cases List.mem_singleton.mp hT
  obtain ⟨w, rfl, _⟩ := st1 q3
  exact K τ h2 hΦ ⟨hz, Or.inr (Or.inr q4)⟩

set_option maxRecDepth 100000 in
theorem g_law_marks_R2 {l : Launch} {Ls : Nat} {xs : Nat → Int32} {c18 : Blk} {τ : Nat → List (Option Nat)} {h : PH} {j : Nat} (hΦ : Φ τ) (hz : RR τ) (hj : 6 * j + 6 ≤ Ls) (hL : Ls ≤ 3072) (hh : all2 (gC ρ0 τ) HL_R2 h) (K : ∀ (τ2 : Nat → List (Option Nat)) (h2 : PH), Φ τ2 → HH τ2 h2 → c18 [some (.inr (some (.inr []))), some (.inr (some (.inl 0))), some (.inr (some (.inl 55))), some (.inl (f_add (nI (6 * j)) 6))] [] h2) : b2_L_law_937 l Ls xs c18 [some (.inr (some (.inr []))), some (.inr (some (.inl 0))), some (.inr (some (.inl 55))), some (.inl (nI (6 * j)))] [] h := by
  refine And.intro (sv (k := 1) hj hL (by omega)) ?_
  refine And.intro (sv (k := 2) hj hL (by omega)) ?_
  refine callT (τ := τ) (tm := tmO [3, 9, 14, 19, 24, 27, 32, 35, 54, 39, 47, 40]) (A := [.inl (-2147483648, 2147483647), .inl (-2147483648, 2147483647), .inr (.inr (some (.inl 0)))]) (H := HL_R2) (Ts := [([.inl (-2147483648, 2147483647)], HL_R2)]) hΦ s_X11_marks ⟨topA_ok _, topA_ok _, rfl, trivial⟩ hh (by decide +kernel) (fun T hT st h1 q1 q2 => ?_)
  cases List.mem_singleton.mp hT
  obtain ⟨v, rfl, _⟩ := st1 q1
  refine And.intro (sv (k := 1) hj hL (by omega)) ?_
  refine And.intro (sv (k := 2) hj hL (by omega)) ?_
  refine callT (τ := τ) (tm := tmO [56, 57, 58, 59, 60, 61, 62, 63, 65, 66, 67, 68, 69, 70, 71, 72, 73, 74, 75, 76, 77, 78, 79, 80, 81, 82, 83, 84, 86]) (A := [.inl (-2147483648, 2147483647), .inl (-2147483648, 2147483647), .inr (.inr (some (.inl 55)))]) (H := HL_R2) (Ts := [([.inl (-2147483648, 2147483647)], HL_R2)]) hΦ s_X12_marks ⟨topA_ok _, topA_ok _, rfl, trivial⟩ q2 (by decide +kernel) (fun T hT st h2 q3 q4 => ?_)
  cases List.mem_singleton.mp hT
  obtain ⟨w, rfl, _⟩ := st1 q3
  exact K τ h2 hΦ ⟨hz, Or.inr (Or.inr q4)⟩

set_option maxRecDepth 100000 in
theorem g_law_franked_R2 {l : Launch} {Ls : Nat} {xs : Nat → Int32} {c18 : Blk} {τ : Nat → List (Option Nat)} {h : PH} {j : Nat} (hΦ : Φ τ) (hz : RR τ) (hj : 6 * j + 6 ≤ Ls) (hL : Ls ≤ 3072) (hh : all2 (gC ρ0 τ) HL_R2 h) (K : ∀ (τ2 : Nat → List (Option Nat)) (h2 : PH), Φ τ2 → HH τ2 h2 → c18 [some (.inr (some (.inr []))), some (.inr (some (.inl 0))), some (.inr (some (.inl 55))), some (.inl (f_add (nI (6 * j)) 6))] [] h2) : b2_L_law_970 l Ls xs c18 [some (.inr (some (.inr []))), some (.inr (some (.inl 0))), some (.inr (some (.inl 55))), some (.inl (nI (6 * j)))] [] h := by
  refine And.intro (sv (k := 1) hj hL (by omega)) ?_
  refine And.intro (sv (k := 2) hj hL (by omega)) ?_
  refine callT (τ := τ) (tm := tmO [3, 9, 14, 19, 24, 27, 32, 35, 54, 39, 47, 40]) (A := [.inl (-2147483648, 2147483647), .inl (-2147483648, 2147483647), .inr (.inr (some (.inl 0)))]) (H := HL_R2) (Ts := [([.inl (-2147483648, 2147483647)], HL_R2)]) hΦ s_X11_franked ⟨topA_ok _, topA_ok _, rfl, trivial⟩ hh (by decide +kernel) (fun T hT st h1 q1 q2 => ?_)
  cases List.mem_singleton.mp hT
  obtain ⟨v, rfl, _⟩ := st1 q1
  refine And.intro (sv (k := 1) hj hL (by omega)) ?_
  refine And.intro (sv (k := 2) hj hL (by omega)) ?_
  refine callT (τ := τ) (tm := tmO [56, 57, 58, 59, 60, 61, 62, 63, 65, 66, 67, 68, 69, 70, 71, 72, 73, 74, 75, 76, 77, 78, 79, 80, 81, 82, 83, 84, 86]) (A := [.inl (-2147483648, 2147483647), .inl (-2147483648, 2147483647), .inr (.inr (some (.inl 55)))]) (H := HL_R2) (Ts := [([.inl (-2147483648, 2147483647)], HL_R2)]) hΦ s_X12_franked ⟨topA_ok _, topA_ok _, rfl, trivial⟩ q2 (by decide +kernel) (fun T hT st h2 q3 q4 => ?_)
  cases List.mem_singleton.mp hT
  obtain ⟨w, rfl, _⟩ := st1 q3
  exact K τ h2 hΦ ⟨hz, Or.inr (Or.inr q4)⟩

set_option maxRecDepth 100000 in
theorem g_law_exchange_R2 {l : Launch} {Ls : Nat} {xs : Nat → Int32} {c18 : Blk} {τ : Nat → List (Option Nat)} {h : PH} {j : Nat} (hΦ : Φ τ) (hz : RR τ) (hj : 6 * j + 6 ≤ Ls) (hL : Ls ≤ 3072) (hh : all2 (gC ρ0 τ) HL_R2 h) (K : ∀ (τ2 : Nat → List (Option Nat)) (h2 : PH), Φ τ2 → HH τ2 h2 → c18 [some (.inr (some (.inr []))), some (.inr (some (.inl 0))), some (.inr (some (.inl 55))), some (.inl (f_add (nI (6 * j)) 6))] [] h2) : b2_L_law_1003 l Ls xs c18 [some (.inr (some (.inr []))), some (.inr (some (.inl 0))), some (.inr (some (.inl 55))), some (.inl (nI (6 * j)))] [] h := by
  refine And.intro (sv (k := 1) hj hL (by omega)) ?_
  refine And.intro (sv (k := 2) hj hL (by omega)) ?_
  refine callT (τ := τ) (tm := tmO [3, 9, 14, 19, 24, 27, 32, 35, 54, 39, 47, 40]) (A := [.inl (-2147483648, 2147483647), .inl (-2147483648, 2147483647), .inr (.inr (some (.inl 0)))]) (H := HL_R2) (Ts := [([.inl (-2147483648, 2147483647)], HL_R2)]) hΦ s_X11_exchange ⟨topA_ok _, topA_ok _, rfl, trivial⟩ hh (by decide +kernel) (fun T hT st h1 q1 q2 => ?_)
  cases List.mem_singleton.mp hT
  obtain ⟨v, rfl, _⟩ := st1 q1
  refine And.intro (sv (k := 1) hj hL (by omega)) ?_
  refine And.intro (sv (k := 2) hj hL (by omega)) ?_
  refine callT (τ := τ) (tm := tmO [56, 57, 58, 59, 60, 61, 62, 63, 65, 66, 67, 68, 69, 70, 71, 72, 73, 74, 75, 76, 77, 78, 79, 80, 81, 82, 83, 84, 85]) (A := [.inl (-2147483648, 2147483647), .inl (-2147483648, 2147483647), .inr (.inr (some (.inl 55)))]) (H := HL_R2) (Ts := [([.inl (-2147483648, 2147483647)], HL_R2)]) hΦ s_X12_exchange ⟨topA_ok _, topA_ok _, rfl, trivial⟩ q2 (by decide +kernel) (fun T hT st h2 q3 q4 => ?_)
  cases List.mem_singleton.mp hT
  obtain ⟨w, rfl, _⟩ := st1 q3
  exact K τ h2 hΦ ⟨hz, Or.inr (Or.inr q4)⟩

set_option maxRecDepth 100000 in
theorem g_law_seed_R2 {l : Launch} {Ls : Nat} {xs : Nat → Int32} {c18 : Blk} {τ : Nat → List (Option Nat)} {h : PH} {j : Nat} (hΦ : Φ τ) (hz : RR τ) (hj : 6 * j + 6 ≤ Ls) (hL : Ls ≤ 3072) (hh : all2 (gC ρ0 τ) HL_R2 h) (K : ∀ (τ2 : Nat → List (Option Nat)) (h2 : PH), Φ τ2 → HH τ2 h2 → c18 [some (.inr (some (.inr []))), some (.inr (some (.inl 0))), some (.inr (some (.inl 55))), some (.inl (f_add (nI (6 * j)) 6))] [] h2) : b2_L_law_1036 l Ls xs c18 [some (.inr (some (.inr []))), some (.inr (some (.inl 0))), some (.inr (some (.inl 55))), some (.inl (nI (6 * j)))] [] h := by
  refine And.intro (sv (k := 1) hj hL (by omega)) ?_
  refine callT (τ := τ) (tm := tmO [1, 3, 14, 19, 24, 27, 29, 32, 35, 54, 39, 47, 40]) (A := [.inl (-2147483648, 2147483647), .inr (.inr (some (.inl 0)))]) (H := HL_R2) (Ts := [([.inl (-2147483648, 2147483647)], HL_R2)]) hΦ s_X11_seed ⟨topA_ok _, rfl, trivial⟩ hh (by decide +kernel) (fun T hT st h1 q1 q2 => ?_)
  cases List.mem_singleton.mp hT
  obtain ⟨v, rfl, _⟩ := st1 q1
  refine And.intro (sv (k := 1) hj hL (by omega)) ?_
  refine callT (τ := τ) (tm := tmO [57, 58, 59, 60, 61, 62, 63, 64, 65, 66, 67, 68, 69, 70, 71, 72, 73, 74, 75, 76, 77, 78, 79, 80, 81, 82, 83, 84, 85, 86]) (A := [.inl (-2147483648, 2147483647), .inr (.inr (some (.inl 55)))]) (H := HL_R2) (Ts := [([.inl (-2147483648, 2147483647)], HL_R2)]) hΦ s_X12_seed ⟨topA_ok _, rfl, trivial⟩ q2 (by decide +kernel) (fun T hT st h2 q3 q4 => ?_)
  cases List.mem_singleton.mp hT
  obtain ⟨w, rfl, _⟩ := st1 q3
  exact K τ h2 hΦ ⟨hz, Or.inr (Or.inr q4)⟩

set_option maxRecDepth 100000 in
theorem g_law_keep_R2 {l : Launch} {Ls : Nat} {xs : Nat → Int32} {c18 : Blk} {τ : Nat → List (Option Nat)} {h : PH} {j : Nat} (hΦ : Φ τ) (hz : RR τ) (hj : 6 * j + 6 ≤ Ls) (hL : Ls ≤ 3072) (hh : all2 (gC ρ0 τ) HL_R2 h) (K : ∀ (τ2 : Nat → List (Option Nat)) (h2 : PH), Φ τ2 → HH τ2 h2 → c18 [some (.inr (some (.inr []))), some (.inr (some (.inl 0))), some (.inr (some (.inl 55))), some (.inl (f_add (nI (6 * j)) 6))] [] h2) : b2_L_law_1059 l Ls xs c18 [some (.inr (some (.inr []))), some (.inr (some (.inl 0))), some (.inr (some (.inl 55))), some (.inl (nI (6 * j)))] [] h := by
  refine callX (τ := τ) (xs := []) (rest := []) (a := 0) (ci := 10) (tm := tmO [1, 3, 19, 24, 27, 29, 32, 35, 54, 39, 47, 40]) (H := HL_R2) (H2 := HL_R2_k1) hΦ trivial x_keepC hh (fun K h => h) rfl rfl rfl (by decide +kernel) (by decide +kernel) (by decide +kernel) (by decide +kernel) (fun τ2 p2 p3 v h1 qv q2 => ?_)
  refine callX (τ := τ2) (xs := []) (rest := [.inl v]) (a := 55) (ci := 11) (tm := tmO [57, 59, 60, 61, 62, 63, 64, 65, 66, 67, 68, 69, 70, 71, 72, 73, 74, 75, 76, 77, 78, 79, 80, 81, 82, 83, 84, 85, 86]) (H := HL_R2_k1) (H2 := HL_R2_k2) p2 trivial x_keepR q2 (fun K h => h) rfl rfl rfl (by decide +kernel) (by decide +kernel) (by decide +kernel) (by decide +kernel) (fun τ3 p4 p5 w h2 qw q4 => ?_)
  have qv : v = decA (τ 206) 0 ∧ decA (τ2 207) 0 = decA (τ 206) 0 := qv
  have qw : w = decA (τ2 208) 0 ∧ decA (τ3 209) 0 = decA (τ2 208) 0 := qw
  rw [p3 208 rfl] at qw
  have ev : v = w := by rw [qv.1, qw.1, hz.1]
  refine And.intro (fun _ => ?_) (fun z => absurd ev z)
  have hz3 : RR τ3 := ⟨by rw [p5 206 rfl, p3 206 rfl, p5 208 rfl, p3 208 rfl]; exact hz.1, by rw [p5 207 rfl, qv.2, qw.2]; exact hz.1⟩
  exact K (upT τ3 201 1) h2 p4 ⟨RR_to (fun t ht => upT_ne (fun z => by subst z; cases ht)) hz3, Or.inr (Or.inr (mvH (k := 201) (c := 1) rfl (fun t ht => upT_ne ht) (by rw [upT_at]; rfl) (by decide) (by decide +kernel) q4))⟩

set_option maxRecDepth 100000 in
theorem g_law_undo_R2 {l : Launch} {Ls : Nat} {xs : Nat → Int32} {c18 : Blk} {τ : Nat → List (Option Nat)} {h : PH} {j : Nat} (hΦ : Φ τ) (hz : RR τ) (hj : 6 * j + 6 ≤ Ls) (hL : Ls ≤ 3072) (hh : all2 (gC ρ0 τ) HL_R2 h) (K : ∀ (τ2 : Nat → List (Option Nat)) (h2 : PH), Φ τ2 → HH τ2 h2 → c18 [some (.inr (some (.inr []))), some (.inr (some (.inl 0))), some (.inr (some (.inl 55))), some (.inl (f_add (nI (6 * j)) 6))] [] h2) : b2_L_law_1072 l Ls xs c18 [some (.inr (some (.inr []))), some (.inr (some (.inl 0))), some (.inr (some (.inl 55))), some (.inl (nI (6 * j)))] [] h := by
  have hr := tokR (i := 0) (j := 14) (t := 201) hh rfl rfl rfl
  have hr : 0 ≤ (decA (τ 201) 0).toInt ∧ (decA (τ 201) 0).toInt ≤ 1 := hr
  rcases (show (decA (τ 201) 0).toInt = 0 ∨ (decA (τ 201) 0).toInt = 1 by omega) with e | e
  · have hh := fxH (k := 201) (c := 0) (E := HL_R2_u0) rfl e (by decide +kernel) hh
    refine callX (τ := τ) (xs := []) (rest := []) (a := 0) (ci := 10) (tm := tmO [1, 19, 24, 27, 29, 32, 35, 54, 39, 47, 40]) (H := HL_R2_u0) (H2 := HL_R2_u0) hΦ trivial x_undo0C hh (fun K h => h) rfl rfl rfl (by decide +kernel) (by decide +kernel) (by decide +kernel) (by decide +kernel) (fun τ2 p2 p3 v h1 qv q2 => ?_)
    refine callX (τ := τ2) (xs := []) (rest := []) (a := 55) (ci := 11) (tm := tmO [57, 59, 60, 61, 62, 63, 64, 65, 66, 67, 68, 69, 70, 71, 72, 73, 74, 75, 76, 77, 78, 79, 80, 81, 82, 83, 84, 85, 86]) (H := HL_R2_u0) (H2 := HL_R2_u0) p2 trivial x_undo0R q2 (fun K h => h) rfl rfl rfl (by decide +kernel) (by decide +kernel) (by decide +kernel) (by decide +kernel) (fun τ3 p4 p5 w h2 qw q4 => ?_)
    have hz3 : RR τ3 := by
      have e2 : τ2 = τ := funext fun t => p3 t (Bool.and_false _)
      have e3 : τ3 = τ2 := funext fun t => p5 t (Bool.and_false _)
      rw [e3, e2]
      exact hz
    have e1 : (decA (τ3 201) 0).toInt = 0 := by rw [p5 201 rfl, p3 201 rfl]; exact e
    exact K τ3 h2 p4 ⟨hz3, Or.inr (Or.inr (mvH (k := 201) (c := 0) rfl (fun _ _ => rfl) e1 (by decide) (by decide +kernel) q4))⟩
  · have hh := fxH (k := 201) (c := 1) (E := HL_R2_k2) rfl e (by decide +kernel) hh
    refine callX (τ := τ) (xs := []) (rest := []) (a := 0) (ci := 10) (tm := tmO [1, 19, 24, 27, 29, 32, 35, 54, 39, 47, 40]) (H := HL_R2_k2) (H2 := HL_R2_k2) hΦ trivial x_undo1C hh (fun K h => h) rfl rfl rfl (by decide +kernel) (by decide +kernel) (by decide +kernel) (by decide +kernel) (fun τ2 p2 p3 v h1 qv q2 => ?_)
    refine callX (τ := τ2) (xs := []) (rest := []) (a := 55) (ci := 11) (tm := tmO [57, 59, 60, 61, 62, 63, 64, 65, 66, 67, 68, 69, 70, 71, 72, 73, 74, 75, 76, 77, 78, 79, 80, 81, 82, 83, 84, 85, 86]) (H := HL_R2_k2) (H2 := HL_R2_k2) p2 trivial x_undo1R q2 (fun K h => h) rfl rfl rfl (by decide +kernel) (by decide +kernel) (by decide +kernel) (by decide +kernel) (fun τ3 p4 p5 w h2 qw q4 => ?_)
    have qv : decA (τ2 206) 0 = decA (τ 207) 0 := qv
    have qw : decA (τ3 208) 0 = decA (τ2 209) 0 := qw
    have hz3 : RR τ3 := ⟨by rw [p5 206 rfl, qv, qw, p3 209 rfl]; exact hz.2, by rw [p5 207 rfl, p3 207 rfl, p5 209 rfl, p3 209 rfl]; exact hz.2⟩
    have e1 : (decA (τ3 201) 0).toInt = 1 := by rw [p5 201 rfl, p3 201 rfl]; exact e
    exact K τ3 h2 p4 ⟨hz3, Or.inr (Or.inr (mvH (k := 201) (c := 1) rfl (fun _ _ => rfl) e1 (by decide) (by decide +kernel) q4))⟩

set_option maxRecDepth 100000 in
theorem g_law_check_R2 {l : Launch} {Ls : Nat} {xs : Nat → Int32} {c18 : Blk} {τ : Nat → List (Option Nat)} {h : PH} {j : Nat} (hΦ : Φ τ) (hz : RR τ) (hj : 6 * j + 6 ≤ Ls) (hL : Ls ≤ 3072) (hh : all2 (gC ρ0 τ) HL_R2 h) (K : ∀ (τ2 : Nat → List (Option Nat)) (h2 : PH), Φ τ2 → HH τ2 h2 → c18 [some (.inr (some (.inr []))), some (.inr (some (.inl 0))), some (.inr (some (.inl 55))), some (.inl (f_add (nI (6 * j)) 6))] [] h2) : b2_L_law_1085 l Ls xs c18 [some (.inr (some (.inr []))), some (.inr (some (.inl 0))), some (.inr (some (.inl 55))), some (.inl (nI (6 * j)))] [] h := by
  refine And.intro (sv (k := 1) hj hL (by omega)) ?_
  refine callT (τ := τ) (tm := tmO [3, 14, 19, 24, 27, 29, 32, 35, 54, 39, 47, 40]) (A := [.inl (-2147483648, 2147483647), .inr (.inr (some (.inl 0)))]) (H := HL_R2) (Ts := [([.inl (-2147483648, 2147483647)], HL_R2)]) hΦ s_X11_check ⟨topA_ok _, rfl, trivial⟩ hh (by decide +kernel) (fun T hT st h1 q1 q2 => ?_)
  cases List.mem_singleton.mp hT
  obtain ⟨v, rfl, _⟩ := st1 q1
  refine And.intro (sv (k := 1) hj hL (by omega)) ?_
  refine callT (τ := τ) (tm := tmO [57, 58, 59, 60, 61, 62, 63, 65, 66, 67, 68, 69, 70, 71, 72, 73, 74, 75, 76, 77, 78, 79, 80, 81, 82, 83, 84, 85, 86]) (A := [.inl (-2147483648, 2147483647), .inr (.inr (some (.inl 55)))]) (H := HL_R2) (Ts := [([.inl (-2147483648, 2147483647)], HL_R2)]) hΦ s_X12_check ⟨topA_ok _, rfl, trivial⟩ q2 (by decide +kernel) (fun T hT st h2 q3 q4 => ?_)
  cases List.mem_singleton.mp hT
  obtain ⟨w, rfl, _⟩ := st1 q3
  exact K τ h2 hΦ ⟨hz, Or.inr (Or.inr q4)⟩

set_option maxRecDepth 100000 in
theorem g_law_count_R2 {l : Launch} {Ls : Nat} {xs : Nat → Int32} {c18 : Blk} {τ : Nat → List (Option Nat)} {h : PH} {j : Nat} (hΦ : Φ τ) (hz : RR τ) (hj : 6 * j + 6 ≤ Ls) (hL : Ls ≤ 3072) (hh : all2 (gC ρ0 τ) HL_R2 h) (K : ∀ (τ2 : Nat → List (Option Nat)) (h2 : PH), Φ τ2 → HH τ2 h2 → c18 [some (.inr (some (.inr []))), some (.inr (some (.inl 0))), some (.inr (some (.inl 55))), some (.inl (f_add (nI (6 * j)) 6))] [] h2) : b2_L_law_1108 l Ls xs c18 [some (.inr (some (.inr []))), some (.inr (some (.inl 0))), some (.inr (some (.inl 55))), some (.inl (nI (6 * j)))] [] h := by
  refine And.intro (sv (k := 1) hj hL (by omega)) ?_
  refine callT (τ := τ) (tm := tmO [14, 19, 24, 27, 29, 32, 35, 54, 39, 40]) (A := [.inl (-2147483648, 2147483647), .inr (.inr (some (.inl 0)))]) (H := HL_R2) (Ts := [([.inl (-2147483648, 2147483647)], HL_R2)]) hΦ s_X11_count ⟨topA_ok _, rfl, trivial⟩ hh (by decide +kernel) (fun T hT st h1 q1 q2 => ?_)
  cases List.mem_singleton.mp hT
  obtain ⟨v, rfl, _⟩ := st1 q1
  refine And.intro (sv (k := 1) hj hL (by omega)) ?_
  refine callT (τ := τ) (tm := tmO [57, 58, 60, 61, 63, 64, 65, 66, 67, 68, 69, 70, 71, 72, 73, 74, 75, 76, 77, 78, 79, 80, 81, 82, 83, 84, 85, 86]) (A := [.inl (-2147483648, 2147483647), .inr (.inr (some (.inl 55)))]) (H := HL_R2) (Ts := [([.inl (-2147483648, 2147483647)], HL_R2)]) hΦ s_X12_count ⟨topA_ok _, rfl, trivial⟩ q2 (by decide +kernel) (fun T hT st h2 q3 q4 => ?_)
  cases List.mem_singleton.mp hT
  obtain ⟨w, rfl, _⟩ := st1 q3
  exact K τ h2 hΦ ⟨hz, Or.inr (Or.inr q4)⟩

