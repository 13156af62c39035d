set_option maxRecDepth 100000 in
theorem g_law_mint_S1 {l : Launch} {Ls : Nat} {xs : Nat → Int32} {c18 : Blk} {τ : Nat → List (Option Nat)} {h : PH} {j : Nat} (hΦ : Φ τ) (hj : 6 * j + 6 ≤ Ls) (hL : Ls ≤ 3072) (hh : all2 (gC ρ0 τ) HL_S1 h) (K : ∀ (τ2 : Nat → List (Option Nat)) (h2 : PH), Φ τ2 → HH τ2 h2 → c18 [some (.inr (some (.inr []))), some (.inr (some (.inl 0))), some (.inr (some (.inl 55))), some (.inl (f_add (nI (6 * j)) 6))] [] h2) : b_L_law_164 l Ls xs c18 [some (.inr (some (.inr []))), some (.inr (some (.inl 0))), some (.inr (some (.inl 55))), some (.inl (nI (6 * j)))] [] h := by
  refine And.intro (sv (k := 1) hj hL (by omega)) ?_
  refine And.intro (sv (k := 2) hj hL (by omega)) ?_
  refine And.intro (sv (k := 3) hj hL (by omega)) ?_
  refine callT (τ := τ) (tm := tmO [1, 9, 14, 19, 24, 27, 29, 32, 35, 54, 39, 40, 47]) (A := [.inl (-2147483648, 2147483647), .inl (-2147483648, 2147483647), .inl (-2147483648, 2147483647), .inr (.inr (some (.inl 0)))]) (H := HL_S1) (Ts := [([.inl (-2147483648, 2147483647)], HL_S1)]) hΦ s_X11_mint ⟨topA_ok _, topA_ok _, topA_ok _, rfl, trivial⟩ hh (by decide +kernel) (fun T hT st h1 q1 q2 => ?_)
  cases List.mem_singleton.mp hT
  obtain ⟨v, rfl, _⟩ := st1 q1
  refine And.intro (sv (k := 1) hj hL (by omega)) ?_
  refine And.intro (sv (k := 2) hj hL (by omega)) ?_
  refine And.intro (sv (k := 3) hj hL (by omega)) ?_
  refine callT (τ := τ) (tm := tmO [56, 57, 58, 60, 61, 62, 63, 64, 65, 66, 67, 68, 69, 70, 71, 72, 73, 74, 75, 76, 77, 78, 79, 80, 81, 82, 83, 84, 85, 86]) (A := [.inl (-2147483648, 2147483647), .inl (-2147483648, 2147483647), .inl (-2147483648, 2147483647), .inr (.inr (some (.inl 55)))]) (H := HL_S1) (Ts := [([.inl (-2147483648, 2147483647)], HL_S1)]) hΦ s_X12_mint ⟨topA_ok _, topA_ok _, topA_ok _, rfl, trivial⟩ q2 (by decide +kernel) (fun T hT st h2 q3 q4 => ?_)
  cases List.mem_singleton.mp hT
  obtain ⟨w, rfl, _⟩ := st1 q3
  exact K τ h2 hΦ (Or.inl (Or.inl q4))

set_option maxRecDepth 100000 in
theorem g_law_feed_S1 {l : Launch} {Ls : Nat} {xs : Nat → Int32} {c18 : Blk} {τ : Nat → List (Option Nat)} {h : PH} {j : Nat} (hΦ : Φ τ) (hj : 6 * j + 6 ≤ Ls) (hL : Ls ≤ 3072) (hh : all2 (gC ρ0 τ) HL_S1 h) (K : ∀ (τ2 : Nat → List (Option Nat)) (h2 : PH), Φ τ2 → HH τ2 h2 → c18 [some (.inr (some (.inr []))), some (.inr (some (.inl 0))), some (.inr (some (.inl 55))), some (.inl (f_add (nI (6 * j)) 6))] [] h2) : b_L_law_207 l Ls xs c18 [some (.inr (some (.inr []))), some (.inr (some (.inl 0))), some (.inr (some (.inl 55))), some (.inl (nI (6 * j)))] [] h := by
  refine And.intro (sv (k := 1) hj hL (by omega)) ?_
  refine And.intro (sv (k := 2) hj hL (by omega)) ?_
  refine And.intro (sv (k := 3) hj hL (by omega)) ?_
  refine And.intro (sv (k := 4) hj hL (by omega)) ?_
  refine And.intro (sv (k := 5) hj hL (by omega)) ?_
  refine callT (τ := τ) (tm := tmO [3, 9, 14, 19, 24, 27, 29, 32, 35, 54, 39, 40, 47]) (A := [.inl (-2147483648, 2147483647), .inl (-2147483648, 2147483647), .inl (-2147483648, 2147483647), .inl (-2147483648, 2147483647), .inl (-2147483648, 2147483647), .inr (.inr (some (.inl 0)))]) (H := HL_S1) (Ts := [([.inl (-2147483648, 2147483647)], HL_S1)]) hΦ s_X11_feed ⟨topA_ok _, topA_ok _, topA_ok _, topA_ok _, topA_ok _, rfl, trivial⟩ hh (by decide +kernel) (fun T hT st h1 q1 q2 => ?_)
  cases List.mem_singleton.mp hT
  obtain ⟨v, rfl, _⟩ := st1 q1
  refine And.intro (sv (k := 1) hj hL (by omega)) ?_
  refine And.intro (sv (k := 2) hj hL (by omega)) ?_
  refine And.intro (sv (k := 3) hj hL (by omega)) ?_
  refine And.intro (sv (k := 4) hj hL (by omega)) ?_
  refine And.intro (sv (k := 5) hj hL (by omega)) ?_
  refine callT (τ := τ) (tm := tmO [56, 57, 58, 59, 60, 61, 62, 63, 65, 66, 67, 68, 69, 70, 71, 72, 73, 74, 75, 76, 77, 78, 79, 80, 81, 82, 83, 84, 85, 86]) (A := [.inl (-2147483648, 2147483647), .inl (-2147483648, 2147483647), .inl (-2147483648, 2147483647), .inl (-2147483648, 2147483647), .inl (-2147483648, 2147483647), .inr (.inr (some (.inl 55)))]) (H := HL_S1) (Ts := [([.inl (-2147483648, 2147483647)], HL_S1)]) hΦ s_X12_feed ⟨topA_ok _, topA_ok _, topA_ok _, topA_ok _, topA_ok _, rfl, trivial⟩ q2 (by decide +kernel) (fun T hT st h2 q3 q4 => ?_)
  cases List.mem_singleton.mp hT
  obtain ⟨w, rfl, _⟩ := st1 q3
  exact K τ h2 hΦ (Or.inl (Or.inl q4))

set_option maxRecDepth 100000 in
theorem g_law_law_S1 {l : Launch} {Ls : Nat} {xs : Nat → Int32} {c18 : Blk} {τ : Nat → List (Option Nat)} {h : PH} {j : Nat} (hΦ : Φ τ) (hj : 6 * j + 6 ≤ Ls) (hL : Ls ≤ 3072) (hh : all2 (gC ρ0 τ) HL_S1 h) (K : ∀ (τ2 : Nat → List (Option Nat)) (h2 : PH), Φ τ2 → HH τ2 h2 → c18 [some (.inr (some (.inr []))), some (.inr (some (.inl 0))), some (.inr (some (.inl 55))), some (.inl (f_add (nI (6 * j)) 6))] [] h2) : b_L_law_270 l Ls xs c18 [some (.inr (some (.inr []))), some (.inr (some (.inl 0))), some (.inr (some (.inl 55))), some (.inl (nI (6 * j)))] [] h := by
  refine And.intro (sv (k := 1) hj hL (by omega)) ?_
  refine callT (τ := τ) (tm := tmO [3, 9, 14, 19, 24, 27, 29, 32, 35, 39, 40]) (A := [.inl (-2147483648, 2147483647), .inr (.inr (some (.inl 0)))]) (H := HL_S1) (Ts := [([.inl (-2147483648, 2147483647)], HL_S1), ([.inl (-2147483648, 2147483647)], HL_R1), ([.inl (-2147483648, 2147483647)], HL_S2), ([.inl (-2147483648, 2147483647)], HL_R2)]) hΦ s_X11_law_S ⟨topA_ok _, rfl, trivial⟩ hh (by decide +kernel) (fun T hT st h1 q1 q2 => ?_)
  rcases List.mem_cons.mp hT with rfl | hT
  · obtain ⟨v, rfl, _⟩ := st1 q1
    refine And.intro (sv (k := 1) hj hL (by omega)) ?_
    refine callL (τ := τ) (tm := tmO [56, 57, 58, 59, 60, 61, 62, 63, 76, 77, 78, 79, 80, 81, 82, 83, 84, 85, 86]) (A := [.inl (-2147483648, 2147483647), .inr (.inr (some (.inl 55)))]) (as := [.inr (.inr (some (.inl 55))), .inl (-2147483648, 2147483647)]) (H := HL_S1) (H2 := HL_S1) hΦ s_X12_law ⟨topA_ok _, rfl, trivial⟩ q2 rfl (by decide +kernel) (by decide +kernel) (by decide +kernel) (by decide +kernel) (fun τ2 p2 p3 y h2 q3 => ?_)
    exact K τ2 h2 p2 (Or.inl (Or.inl q3))
  rcases List.mem_cons.mp hT with rfl | hT
  · obtain ⟨v, rfl, _⟩ := st1 q1
    refine And.intro (sv (k := 1) hj hL (by omega)) ?_
    refine callL (τ := τ) (tm := tmO [56, 57, 58, 59, 60, 61, 62, 63, 76, 77, 78, 79, 80, 81, 82, 83, 84, 85, 86]) (A := [.inl (-2147483648, 2147483647), .inr (.inr (some (.inl 55)))]) (as := [.inr (.inr (some (.inl 55))), .inl (-2147483648, 2147483647)]) (H := HL_R1) (H2 := HL_R1) hΦ s_X12_law ⟨topA_ok _, rfl, trivial⟩ q2 rfl (by decide +kernel) (by decide +kernel) (by decide +kernel) (by decide +kernel) (fun τ2 p2 p3 y h2 q3 => ?_)
    exact K τ2 h2 p2 (Or.inl (Or.inr q3))
  rcases List.mem_cons.mp hT with rfl | hT
  · obtain ⟨v, rfl, _⟩ := st1 q1
    refine And.intro (sv (k := 1) hj hL (by omega)) ?_
    refine callL (τ := τ) (tm := tmO [56, 57, 58, 59, 60, 61, 62, 63, 76, 77, 78, 79, 80, 81, 82, 83, 84, 85, 86]) (A := [.inl (-2147483648, 2147483647), .inr (.inr (some (.inl 55)))]) (as := [.inr (.inr (some (.inl 55))), .inl (-2147483648, 2147483647)]) (H := HL_S2) (H2 := HL_S2) hΦ s_X12_law ⟨topA_ok _, rfl, trivial⟩ q2 rfl (by decide +kernel) (by decide +kernel) (by decide +kernel) (by decide +kernel) (fun τ2 p2 p3 y h2 q3 => ?_)
    exact K τ2 h2 p2 (Or.inr (Or.inl q3))
  cases List.mem_singleton.mp hT
  obtain ⟨v, rfl, _⟩ := st1 q1
  refine And.intro (sv (k := 1) hj hL (by omega)) ?_
  refine callL (τ := τ) (tm := tmO [56, 57, 58, 59, 60, 61, 62, 63, 76, 77, 78, 79, 80, 81, 82, 83, 84, 85, 86]) (A := [.inl (-2147483648, 2147483647), .inr (.inr (some (.inl 55)))]) (as := [.inr (.inr (some (.inl 55))), .inl (-2147483648, 2147483647)]) (H := HL_R2) (H2 := HL_R2) hΦ s_X12_law ⟨topA_ok _, rfl, trivial⟩ q2 rfl (by decide +kernel) (by decide +kernel) (by decide +kernel) (by decide +kernel) (fun τ2 p2 p3 y h2 q3 => ?_)
  exact K τ2 h2 p2 (Or.inr (Or.inr q3))

set_option maxRecDepth 100000 in
theorem g_law_sheet_S1 {l : Launch} {Ls : Nat} {xs : Nat → Int32} {c18 : Blk} {τ : Nat → List (Option Nat)} {h : PH} {j : Nat} (hΦ : Φ τ) (hj : 6 * j + 6 ≤ Ls) (hL : Ls ≤ 3072) (hh : all2 (gC ρ0 τ) HL_S1 h) (K : ∀ (τ2 : Nat → List (Option Nat)) (h2 : PH), Φ τ2 → HH τ2 h2 → c18 [some (.inr (some (.inr []))), some (.inr (some (.inl 0))), some (.inr (some (.inl 55))), some (.inl (f_add (nI (6 * j)) 6))] [] h2) : b_L_law_293 l Ls xs c18 [some (.inr (some (.inr []))), some (.inr (some (.inl 0))), some (.inr (some (.inl 55))), some (.inl (nI (6 * j)))] [] h := by
  refine And.intro (sv (k := 1) hj hL (by omega)) ?_
  refine callT (τ := τ) (tm := tmO [14, 19, 24, 27, 29, 35, 54, 39, 40, 47]) (A := [.inl (-2147483648, 2147483647), .inr (.inr (some (.inl 0)))]) (H := HL_S1) (Ts := [([.inl (-2147483648, 2147483647)], HL_S1)]) hΦ s_X11_sheet ⟨topA_ok _, rfl, trivial⟩ hh (by decide +kernel) (fun T hT st h1 q1 q2 => ?_)
  cases List.mem_singleton.mp hT
  obtain ⟨v, rfl, _⟩ := st1 q1
  refine And.intro (sv (k := 1) hj hL (by omega)) ?_
  refine callT (τ := τ) (tm := tmO [57, 58, 59, 62, 63, 65, 66, 67, 68, 69, 70, 71, 72, 73, 74, 75, 76, 77, 82, 83, 84, 85, 86]) (A := [.inl (-2147483648, 2147483647), .inr (.inr (some (.inl 55)))]) (H := HL_S1) (Ts := [([.inl (-2147483648, 2147483647)], HL_S1)]) hΦ s_X12_sheet ⟨topA_ok _, rfl, trivial⟩ q2 (by decide +kernel) (fun T hT st h2 q3 q4 => ?_)
  cases List.mem_singleton.mp hT
  obtain ⟨w, rfl, _⟩ := st1 q3
  exact K τ h2 hΦ (Or.inl (Or.inl q4))

set_option maxRecDepth 100000 in
theorem g_law_post_S1 {l : Launch} {Ls : Nat} {xs : Nat → Int32} {c18 : Blk} {τ : Nat → List (Option Nat)} {h : PH} {j : Nat} (hΦ : Φ τ) (hj : 6 * j + 6 ≤ Ls) (hL : Ls ≤ 3072) (hh : all2 (gC ρ0 τ) HL_S1 h) (K : ∀ (τ2 : Nat → List (Option Nat)) (h2 : PH), Φ τ2 → HH τ2 h2 → c18 [some (.inr (some (.inr []))), some (.inr (some (.inl 0))), some (.inr (some (.inl 55))), some (.inl (f_add (nI (6 * j)) 6))] [] h2) : b_L_law_316 l Ls xs c18 [some (.inr (some (.inr []))), some (.inr (some (.inl 0))), some (.inr (some (.inl 55))), some (.inl (nI (6 * j)))] [] h := by
  refine And.intro (sv (k := 1) hj hL (by omega)) ?_
  refine callT (τ := τ) (tm := tmO [14, 19, 24, 27, 29, 32, 54, 39, 40, 47]) (A := [.inl (-2147483648, 2147483647), .inr (.inr (some (.inl 0)))]) (H := HL_S1) (Ts := [([.inl (-2147483648, 2147483647)], HL_S1)]) hΦ s_X11_post ⟨topA_ok _, rfl, trivial⟩ hh (by decide +kernel) (fun T hT st h1 q1 q2 => ?_)
  cases List.mem_singleton.mp hT
  obtain ⟨v, rfl, _⟩ := st1 q1
  refine And.intro (sv (k := 1) hj hL (by omega)) ?_
  refine callT (τ := τ) (tm := tmO [58, 59, 60, 61, 65, 66, 67, 68, 69, 70, 71, 72, 73, 74, 75, 76, 77, 78, 79, 80, 81, 82, 83, 84, 85, 86]) (A := [.inl (-2147483648, 2147483647), .inr (.inr (some (.inl 55)))]) (H := HL_S1) (Ts := [([.inl (-2147483648, 2147483647)], HL_S1)]) hΦ s_X12_post ⟨topA_ok _, rfl, trivial⟩ q2 (by decide +kernel) (fun T hT st h2 q3 q4 => ?_)
  cases List.mem_singleton.mp hT
  obtain ⟨w, rfl, _⟩ := st1 q3
  exact K τ h2 hΦ (Or.inl (Or.inl q4))

set_option maxRecDepth 100000 in
theorem g_law_days_S1 {l : Launch} {Ls : Nat} {xs : Nat → Int32} {c18 : Blk} {τ : Nat → List (Option Nat)} {h : PH} {j : Nat} (hΦ : Φ τ) (hj : 6 * j + 6 ≤ Ls) (hL : Ls ≤ 3072) (hh : all2 (gC ρ0 τ) HL_S1 h) (K : ∀ (τ2 : Nat → List (Option Nat)) (h2 : PH), Φ τ2 → HH τ2 h2 → c18 [some (.inr (some (.inr []))), some (.inr (some (.inl 0))), some (.inr (some (.inl 55))), some (.inl (f_add (nI (6 * j)) 6))] [] h2) : b_L_law_339 l Ls xs c18 [some (.inr (some (.inr []))), some (.inr (some (.inl 0))), some (.inr (some (.inl 55))), some (.inl (nI (6 * j)))] [] h := by
  refine And.intro (sv (k := 1) hj hL (by omega)) ?_
  refine callT (τ := τ) (tm := tmO [1, 14, 19, 27, 29, 32, 35, 54, 39, 47]) (A := [.inl (-2147483648, 2147483647), .inr (.inr (some (.inl 0)))]) (H := HL_S1) (Ts := [([.inl (-2147483648, 2147483647)], HL_S1)]) hΦ s_X11_days ⟨topA_ok _, rfl, trivial⟩ hh (by decide +kernel) (fun T hT st h1 q1 q2 => ?_)
  cases List.mem_singleton.mp hT
  obtain ⟨v, rfl, _⟩ := st1 q1
  refine And.intro (sv (k := 1) hj hL (by omega)) ?_
  refine callT (τ := τ) (tm := tmO [57, 58, 63, 64, 65, 66, 67, 68, 69, 70, 78, 79, 80, 81, 83, 84, 85, 86]) (A := [.inl (-2147483648, 2147483647), .inr (.inr (some (.inl 55)))]) (H := HL_S1) (Ts := [([.inl (-2147483648, 2147483647)], HL_S1)]) hΦ s_X12_days ⟨topA_ok _, rfl, trivial⟩ q2 (by decide +kernel) (fun T hT st h2 q3 q4 => ?_)
  cases List.mem_singleton.mp hT
  obtain ⟨w, rfl, _⟩ := st1 q3
  exact K τ h2 hΦ (Or.inl (Or.inl q4))

set_option maxRecDepth 100000 in
theorem g_law_tried_S1 {l : Launch} {Ls : Nat} {xs : Nat → Int32} {c18 : Blk} {τ : Nat → List (Option Nat)} {h : PH} {j : Nat} (hΦ : Φ τ) (hj : 6 * j + 6 ≤ Ls) (hL : Ls ≤ 3072) (hh : all2 (gC ρ0 τ) HL_S1 h) (K : ∀ (τ2 : Nat → List (Option Nat)) (h2 : PH), Φ τ2 → HH τ2 h2 → c18 [some (.inr (some (.inr []))), some (.inr (some (.inl 0))), some (.inr (some (.inl 55))), some (.inl (f_add (nI (6 * j)) 6))] [] h2) : b_L_law_362 l Ls xs c18 [some (.inr (some (.inr []))), some (.inr (some (.inl 0))), some (.inr (some (.inl 55))), some (.inl (nI (6 * j)))] [] h := by
  refine And.intro (sv (k := 1) hj hL (by omega)) ?_
  refine And.intro (sv (k := 2) hj hL (by omega)) ?_
  refine callT (τ := τ) (tm := tmO [1, 14, 27, 29, 32, 35, 54, 39, 47]) (A := [.inl (-2147483648, 2147483647), .inl (-2147483648, 2147483647), .inr (.inr (some (.inl 0)))]) (H := HL_S1) (Ts := [([.inl (-2147483648, 2147483647)], HL_S1)]) hΦ s_X11_tried ⟨topA_ok _, topA_ok _, rfl, trivial⟩ hh (by decide +kernel) (fun T hT st h1 q1 q2 => ?_)
  cases List.mem_singleton.mp hT
  obtain ⟨v, rfl, _⟩ := st1 q1
  refine And.intro (sv (k := 1) hj hL (by omega)) ?_
  refine And.intro (sv (k := 2) hj hL (by omega)) ?_
  refine callT (τ := τ) (tm := tmO [58, 63, 64, 65, 66, 67, 68, 69, 70, 78, 79, 80, 81, 83, 84, 85, 86]) (A := [.inl (-2147483648, 2147483647), .inl (-2147483648, 2147483647), .inr (.inr (some (.inl 55)))]) (H := HL_S1) (Ts := [([.inl (-2147483648, 2147483647)], HL_S1)]) hΦ s_X12_tried ⟨topA_ok _, topA_ok _, rfl, trivial⟩ q2 (by decide +kernel) (fun T hT st h2 q3 q4 => ?_)
  cases List.mem_singleton.mp hT
  obtain ⟨w, rfl, _⟩ := st1 q3
  exact K τ h2 hΦ (Or.inl (Or.inl q4))

set_option maxRecDepth 100000 in
theorem g_law_letterIs_S1 {l : Launch} {Ls : Nat} {xs : Nat → Int32} {c18 : Blk} {τ : Nat → List (Option Nat)} {h : PH} {j : Nat} (hΦ : Φ τ) (hj : 6 * j + 6 ≤ Ls) (hL : Ls ≤ 3072) (hh : all2 (gC ρ0 τ) HL_S1 h) (K : ∀ (τ2 : Nat → List (Option Nat)) (h2 : PH), Φ τ2 → HH τ2 h2 → c18 [some (.inr (some (.inr []))), some (.inr (some (.inl 0))), some (.inr (some (.inl 55))), some (.inl (f_add (nI (6 * j)) 6))] [] h2) : b_L_law_395 l Ls xs c18 [some (.inr (some (.inr []))), some (.inr (some (.inl 0))), some (.inr (some (.inl 55))), some (.inl (nI (6 * j)))] [] h := by
  refine And.intro (sv (k := 1) hj hL (by omega)) ?_
  refine And.intro (sv (k := 2) hj hL (by omega)) ?_
  refine callT (τ := τ) (tm := tmO [1, 14, 19, 24, 27, 29, 32, 35, 54, 39, 40, 47]) (A := [.inl (-2147483648, 2147483647), .inl (-2147483648, 2147483647), .inr (.inr (some (.inl 0)))]) (H := HL_S1) (Ts := [([.inl (-2147483648, 2147483647)], HL_S1)]) hΦ s_X11_letterIs ⟨topA_ok _, topA_ok _, rfl, trivial⟩ hh (by decide +kernel) (fun T hT st h1 q1 q2 => ?_)
  cases List.mem_singleton.mp hT
  obtain ⟨v, rfl, _⟩ := st1 q1
  refine And.intro (sv (k := 1) hj hL (by omega)) ?_
  refine And.intro (sv (k := 2) hj hL (by omega)) ?_
  refine callT (τ := τ) (tm := tmO [57, 58, 62, 63, 64, 65, 66, 67, 68, 69, 70, 71, 72, 73, 74, 75, 76, 77, 78, 79, 80, 81, 82, 83, 84, 85, 86]) (A := [.inl (-2147483648, 2147483647), .inl (-2147483648, 2147483647), .inr (.inr (some (.inl 55)))]) (H := HL_S1) (Ts := [([.inl (-2147483648, 2147483647)], HL_S1)]) hΦ s_X12_letterIs ⟨topA_ok _, topA_ok _, rfl, trivial⟩ q2 (by decide +kernel) (fun T hT st h2 q3 q4 => ?_)
  cases List.mem_singleton.mp hT
  obtain ⟨w, rfl, _⟩ := st1 q3
  exact K τ h2 hΦ (Or.inl (Or.inl q4))

set_option maxRecDepth 100000 in
theorem g_law_stampIs_S1 {l : Launch} {Ls : Nat} {xs : Nat → Int32} {c18 : Blk} {τ : Nat → List (Option Nat)} {h : PH} {j : Nat} (hΦ : Φ τ) (hj : 6 * j + 6 ≤ Ls) (hL : Ls ≤ 3072) (hh : all2 (gC ρ0 τ) HL_S1 h) (K : ∀ (τ2 : Nat → List (Option Nat)) (h2 : PH), Φ τ2 → HH τ2 h2 → c18 [some (.inr (some (.inr []))), some (.inr (some (.inl 0))), some (.inr (some (.inl 55))), some (.inl (f_add (nI (6 * j)) 6))] [] h2) : b_L_law_428 l Ls xs c18 [some (.inr (some (.inr []))), some (.inr (some (.inl 0))), some (.inr (some (.inl 55))), some (.inl (nI (6 * j)))] [] h := by
  refine And.intro (sv (k := 1) hj hL (by omega)) ?_
  refine And.intro (sv (k := 2) hj hL (by omega)) ?_
  refine callT (τ := τ) (tm := tmO [1, 14, 19, 24, 27, 29, 32, 35, 54, 39, 40, 47]) (A := [.inl (-2147483648, 2147483647), .inl (-2147483648, 2147483647), .inr (.inr (some (.inl 0)))]) (H := HL_S1) (Ts := [([.inl (-2147483648, 2147483647)], HL_S1)]) hΦ s_X11_stampIs ⟨topA_ok _, topA_ok _, rfl, trivial⟩ hh (by decide +kernel) (fun T hT st h1 q1 q2 => ?_)
  cases List.mem_singleton.mp hT
  obtain ⟨v, rfl, _⟩ := st1 q1
  refine And.intro (sv (k := 1) hj hL (by omega)) ?_
  refine And.intro (sv (k := 2) hj hL (by omega)) ?_
  refine callT (τ := τ) (tm := tmO [57, 58, 59, 62, 63, 64, 65, 66, 67, 68, 69, 70, 71, 72, 73, 74, 75, 76, 77, 78, 79, 80, 81, 82, 83, 84, 85, 86]) (A := [.inl (-2147483648, 2147483647), .inl (-2147483648, 2147483647), .inr (.inr (some (.inl 55)))]) (H := HL_S1) (Ts := [([.inl (-2147483648, 2147483647)], HL_S1)]) hΦ s_X12_stampIs ⟨topA_ok _, topA_ok _, rfl, trivial⟩ q2 (by decide +kernel) (fun T hT st h2 q3 q4 => ?_)
  cases List.mem_singleton.mp hT
  obtain ⟨w, rfl, _⟩ := st1 q3
  exact K τ h2 hΦ (Or.inl (Or.inl q4))

set_option maxRecDepth 100000 in
theorem g_law_comes_S1 {l : Launch} {Ls : Nat} {xs : Nat → Int32} {c18 : Blk} {τ : Nat → List (Option Nat)} {h : PH} {j : Nat} (hΦ : Φ τ) (hj : 6 * j + 6 ≤ Ls) (hL : Ls ≤ 3072) (hh : all2 (gC ρ0 τ) HL_S1 h) (K : ∀ (τ2 : Nat → List (Option Nat)) (h2 : PH), Φ τ2 → HH τ2 h2 → c18 [some (.inr (some (.inr []))), some (.inr (some (.inl 0))), some (.inr (some (.inl 55))), some (.inl (f_add (nI (6 * j)) 6))] [] h2) : b_L_law_461 l Ls xs c18 [some (.inr (some (.inr []))), some (.inr (some (.inl 0))), some (.inr (some (.inl 55))), some (.inl (nI (6 * j)))] [] h := by
  refine And.intro (sv (k := 1) hj hL (by omega)) ?_
  refine And.intro (sv (k := 2) hj hL (by omega)) ?_
  refine And.intro (sv (k := 3) hj hL (by omega)) ?_
  refine callT (τ := τ) (tm := tmO [1, 14, 27, 29, 32, 35, 54, 39, 47]) (A := [.inl (-2147483648, 2147483647), .inl (-2147483648, 2147483647), .inl (-2147483648, 2147483647), .inr (.inr (some (.inl 0)))]) (H := HL_S1) (Ts := [([.inl (-2147483648, 2147483647)], HL_S1)]) hΦ s_X11_comes ⟨topA_ok _, topA_ok _, topA_ok _, rfl, trivial⟩ hh (by decide +kernel) (fun T hT st h1 q1 q2 => ?_)
  cases List.mem_singleton.mp hT
  obtain ⟨v, rfl, _⟩ := st1 q1
  refine And.intro (sv (k := 1) hj hL (by omega)) ?_
  refine And.intro (sv (k := 2) hj hL (by omega)) ?_
  refine And.intro (sv (k := 3) hj hL (by omega)) ?_
  refine callT (τ := τ) (tm := tmO [58, 63, 64, 65, 66, 67, 68, 69, 70, 78, 79, 80, 81, 83, 84, 85, 86]) (A := [.inl (-2147483648, 2147483647), .inl (-2147483648, 2147483647), .inl (-2147483648, 2147483647), .inr (.inr (some (.inl 55)))]) (H := HL_S1) (Ts := [([.inl (-2147483648, 2147483647)], HL_S1)]) hΦ s_X12_comes ⟨topA_ok _, topA_ok _, topA_ok _, rfl, trivial⟩ q2 (by decide +kernel) (fun T hT st h2 q3 q4 => ?_)
  cases List.mem_singleton.mp hT
  obtain ⟨w, rfl, _⟩ := st1 q3
  exact K τ h2 hΦ (Or.inl (Or.inl q4))

set_option maxRecDepth 100000 in
theorem g_law_atRest_S1 {l : Launch} {Ls : Nat} {xs : Nat → Int32} {c18 : Blk} {τ : Nat → List (Option Nat)} {h : PH} {j : Nat} (hΦ : Φ τ) (hj : 6 * j + 6 ≤ Ls) (hL : Ls ≤ 3072) (hh : all2 (gC ρ0 τ) HL_S1 h) (K : ∀ (τ2 : Nat → List (Option Nat)) (h2 : PH), Φ τ2 → HH τ2 h2 → c18 [some (.inr (some (.inr []))), some (.inr (some (.inl 0))), some (.inr (some (.inl 55))), some (.inl (f_add (nI (6 * j)) 6))] [] h2) : b_L_law_504 l Ls xs c18 [some (.inr (some (.inr []))), some (.inr (some (.inl 0))), some (.inr (some (.inl 55))), some (.inl (nI (6 * j)))] [] h := by
  refine And.intro (sv (k := 1) hj hL (by omega)) ?_
  refine And.intro (sv (k := 2) hj hL (by omega)) ?_
  refine callT (τ := τ) (tm := tmO [1, 14, 27, 29, 32, 35, 54, 39, 47]) (A := [.inl (-2147483648, 2147483647), .inl (-2147483648, 2147483647), .inr (.inr (some (.inl 0)))]) (H := HL_S1) (Ts := [([.inl (-2147483648, 2147483647)], HL_S1)]) hΦ s_X11_atRest ⟨topA_ok _, topA_ok _, rfl, trivial⟩ hh (by decide +kernel) (fun T hT st h1 q1 q2 => ?_)
  cases List.mem_singleton.mp hT
  obtain ⟨v, rfl, _⟩ := st1 q1
  refine And.intro (sv (k := 1) hj hL (by omega)) ?_
  refine And.intro (sv (k := 2) hj hL (by omega)) ?_
  refine callT (τ := τ) (tm := tmO [58, 63, 64, 65, 66, 67, 68, 69, 70, 78, 79, 80, 81, 83, 84, 85, 86]) (A := [.inl (-2147483648, 2147483647), .inl (-2147483648, 2147483647), .inr (.inr (some (.inl 55)))]) (H := HL_S1) (Ts := [([.inl (-2147483648, 2147483647)], HL_S1)]) hΦ s_X12_atRest ⟨topA_ok _, topA_ok _, rfl, trivial⟩ q2 (by decide +kernel) (fun T hT st h2 q3 q4 => ?_)
  cases List.mem_singleton.mp hT
  obtain ⟨w, rfl, _⟩ := st1 q3
  exact K τ h2 hΦ (Or.inl (Or.inl q4))

set_option maxRecDepth 100000 in
theorem g_law_meet_S1 {l : Launch} {Ls : Nat} {xs : Nat → Int32} {c18 : Blk} {τ : Nat → List (Option Nat)} {h : PH} {j : Nat} (hΦ : Φ τ) (hj : 6 * j + 6 ≤ Ls) (hL : Ls ≤ 3072) (hh : all2 (gC ρ0 τ) HL_S1 h) (K : ∀ (τ2 : Nat → List (Option Nat)) (h2 : PH), Φ τ2 → HH τ2 h2 → c18 [some (.inr (some (.inr []))), some (.inr (some (.inl 0))), some (.inr (some (.inl 55))), some (.inl (f_add (nI (6 * j)) 6))] [] h2) : b_L_law_537 l Ls xs c18 [some (.inr (some (.inr []))), some (.inr (some (.inl 0))), some (.inr (some (.inl 55))), some (.inl (nI (6 * j)))] [] h := by
  refine And.intro (sv (k := 1) hj hL (by omega)) ?_
  refine And.intro (sv (k := 2) hj hL (by omega)) ?_
  refine And.intro (sv (k := 3) hj hL (by omega)) ?_
  refine callT (τ := τ) (tm := tmO [1, 14, 27, 29, 32, 35, 54, 39, 47]) (A := [.inl (-2147483648, 2147483647), .inl (-2147483648, 2147483647), .inl (-2147483648, 2147483647), .inr (.inr (some (.inl 0)))]) (H := HL_S1) (Ts := [([.inl (-2147483648, 2147483647)], HL_S1)]) hΦ s_X11_meet ⟨topA_ok _, topA_ok _, topA_ok _, rfl, trivial⟩ hh (by decide +kernel) (fun T hT st h1 q1 q2 => ?_)
  cases List.mem_singleton.mp hT
  obtain ⟨v, rfl, _⟩ := st1 q1
  refine And.intro (sv (k := 1) hj hL (by omega)) ?_
  refine And.intro (sv (k := 2) hj hL (by omega)) ?_
  refine And.intro (sv (k := 3) hj hL (by omega)) ?_
  refine callT (τ := τ) (tm := tmO [58, 63, 64, 65, 66, 67, 68, 69, 70, 78, 79, 80, 81, 83, 84, 85, 86]) (A := [.inl (-2147483648, 2147483647), .inl (-2147483648, 2147483647), .inl (-2147483648, 2147483647), .inr (.inr (some (.inl 55)))]) (H := HL_S1) (Ts := [([.inl (-2147483648, 2147483647)], HL_S1)]) hΦ s_X12_meet ⟨topA_ok _, topA_ok _, topA_ok _, rfl, trivial⟩ q2 (by decide +kernel) (fun T hT st h2 q3 q4 => ?_)
  cases List.mem_singleton.mp hT
  obtain ⟨w, rfl, _⟩ := st1 q3
  exact K τ h2 hΦ (Or.inl (Or.inl q4))

set_option maxRecDepth 100000 in
theorem g_law_again_S1 {l : Launch} {Ls : Nat} {xs : Nat → Int32} {c18 : Blk} {τ : Nat → List (Option Nat)} {h : PH} {j : Nat} (hΦ : Φ τ) (hj : 6 * j + 6 ≤ Ls) (hL : Ls ≤ 3072) (hh : all2 (gC ρ0 τ) HL_S1 h) (K : ∀ (τ2 : Nat → List (Option Nat)) (h2 : PH), Φ τ2 → HH τ2 h2 → c18 [some (.inr (some (.inr []))), some (.inr (some (.inl 0))), some (.inr (some (.inl 55))), some (.inl (f_add (nI (6 * j)) 6))] [] h2) : b_L_law_580 l Ls xs c18 [some (.inr (some (.inr []))), some (.inr (some (.inl 0))), some (.inr (some (.inl 55))), some (.inl (nI (6 * j)))] [] h := by
  refine And.intro (sv (k := 1) hj hL (by omega)) ?_
  refine And.intro (sv (k := 2) hj hL (by omega)) ?_
  refine callT (τ := τ) (tm := tmO [1, 14, 27, 29, 32, 35, 54, 47]) (A := [.inl (-2147483648, 2147483647), .inl (-2147483648, 2147483647), .inr (.inr (some (.inl 0)))]) (H := HL_S1) (Ts := [([.inl (-2147483648, 2147483647)], HL_S1)]) hΦ s_X11_again ⟨topA_ok _, topA_ok _, rfl, trivial⟩ hh (by decide +kernel) (fun T hT st h1 q1 q2 => ?_)
  cases List.mem_singleton.mp hT
  obtain ⟨v, rfl, _⟩ := st1 q1
  refine And.intro (sv (k := 1) hj hL (by omega)) ?_
  refine And.intro (sv (k := 2) hj hL (by omega)) ?_
  refine callT (τ := τ) (tm := tmO [58, 63, 64, 65, 66, 67, 68, 69, 70, 78, 79, 80, 81, 84, 85, 86]) (A := [.inl (-2147483648, 2147483647), .inl (-2147483648, 2147483647), .inr (.inr (some (.inl 55)))]) (H := HL_S1) (Ts := [([.inl (-2147483648, 2147483647)], HL_S1)]) hΦ s_X12_again ⟨topA_ok _, topA_ok _, rfl, trivial⟩ q2 (by decide +kernel) (fun T hT st h2 q3 q4 => ?_)
  cases List.mem_singleton.mp hT
  obtain ⟨w, rfl, _⟩ := st1 q3
  exact K τ h2 hΦ (Or.inl (Or.inl q4))

set_option maxRecDepth 100000 in
theorem g_law_home_S1 {l : Launch} {Ls : Nat} {xs : Nat → Int32} {c18 : Blk} {τ : Nat → List (Option Nat)} {h : PH} {j : Nat} (hΦ : Φ τ) (hj : 6 * j + 6 ≤ Ls) (hL : Ls ≤ 3072) (hh : all2 (gC ρ0 τ) HL_S1 h) (K : ∀ (τ2 : Nat → List (Option Nat)) (h2 : PH), Φ τ2 → HH τ2 h2 → c18 [some (.inr (some (.inr []))), some (.inr (some (.inl 0))), some (.inr (some (.inl 55))), some (.inl (f_add (nI (6 * j)) 6))] [] h2) : b_L_law_613 l Ls xs c18 [some (.inr (some (.inr []))), some (.inr (some (.inl 0))), some (.inr (some (.inl 55))), some (.inl (nI (6 * j)))] [] h := by
  refine And.intro (sv (k := 1) hj hL (by omega)) ?_
  refine And.intro (sv (k := 2) hj hL (by omega)) ?_
  refine callT (τ := τ) (tm := tmO [1, 14, 19, 24, 27, 29, 32, 35, 54, 39, 40, 47]) (A := [.inl (-2147483648, 2147483647), .inl (-2147483648, 2147483647), .inr (.inr (some (.inl 0)))]) (H := HL_S1) (Ts := [([.inl (-2147483648, 2147483647)], HL_S1)]) hΦ s_X11_home ⟨topA_ok _, topA_ok _, rfl, trivial⟩ hh (by decide +kernel) (fun T hT st h1 q1 q2 => ?_)
  cases List.mem_singleton.mp hT
  obtain ⟨v, rfl, _⟩ := st1 q1
  refine And.intro (sv (k := 1) hj hL (by omega)) ?_
  refine And.intro (sv (k := 2) hj hL (by omega)) ?_
  refine callT (τ := τ) (tm := tmO [57, 58, 59, 62, 63, 64, 65, 66, 67, 68, 69, 70, 71, 72, 73, 74, 75, 76, 77, 78, 79, 80, 81, 82, 83, 84, 85, 86]) (A := [.inl (-2147483648, 2147483647), .inl (-2147483648, 2147483647), .inr (.inr (some (.inl 55)))]) (H := HL_S1) (Ts := [([.inl (-2147483648, 2147483647)], HL_S1)]) hΦ s_X12_home ⟨topA_ok _, topA_ok _, rfl, trivial⟩ q2 (by decide +kernel) (fun T hT st h2 q3 q4 => ?_)
  cases List.mem_singleton.mp hT
  obtain ⟨w, rfl, _⟩ := st1 q3
  exact K τ h2 hΦ (Or.inl (Or.inl q4))

set_option maxRecDepth 100000 in
theorem g_law_lying_S1 {l : Launch} {Ls : Nat} {xs : Nat → Int32} {c18 : Blk} {τ : Nat → List (Option Nat)} {h : PH} {j : Nat} (hΦ : Φ τ) (hj : 6 * j + 6 ≤ Ls) (hL : Ls ≤ 3072) (hh : all2 (gC ρ0 τ) HL_S1 h) (K : ∀ (τ2 : Nat → List (Option Nat)) (h2 : PH), Φ τ2 → HH τ2 h2 → c18 [some (.inr (some (.inr []))), some (.inr (some (.inl 0))), some (.inr (some (.inl 55))), some (.inl (f_add (nI (6 * j)) 6))] [] h2) : b_L_law_646 l Ls xs c18 [some (.inr (some (.inr []))), some (.inr (some (.inl 0))), some (.inr (some (.inl 55))), some (.inl (nI (6 * j)))] [] h := by
  refine And.intro (sv (k := 1) hj hL (by omega)) ?_
  refine callT (τ := τ) (tm := tmO [1, 3, 14, 19, 24, 27, 29, 32, 35, 54, 39, 40, 47]) (A := [.inl (-2147483648, 2147483647), .inr (.inr (some (.inl 0)))]) (H := HL_S1) (Ts := [([.inl (-2147483648, 2147483647)], HL_S1)]) hΦ s_X11_lying ⟨topA_ok _, rfl, trivial⟩ hh (by decide +kernel) (fun T hT st h1 q1 q2 => ?_)
  cases List.mem_singleton.mp hT
  obtain ⟨v, rfl, _⟩ := st1 q1
  refine And.intro (sv (k := 1) hj hL (by omega)) ?_
  refine callT (τ := τ) (tm := tmO [57, 58, 59, 60, 61, 62, 63, 64, 65, 66, 67, 68, 69, 70, 71, 72, 73, 74, 75, 76, 77, 78, 79, 80, 81, 82, 83, 84, 85, 86]) (A := [.inl (-2147483648, 2147483647), .inr (.inr (some (.inl 55)))]) (H := HL_S1) (Ts := [([.inl (-2147483648, 2147483647)], HL_S1)]) hΦ s_X12_lying ⟨topA_ok _, rfl, trivial⟩ q2 (by decide +kernel) (fun T hT st h2 q3 q4 => ?_)
  cases List.mem_singleton.mp hT
  obtain ⟨w, rfl, _⟩ := st1 q3
  exact K τ h2 hΦ (Or.inl (Or.inl q4))

set_option maxRecDepth 100000 in
theorem g_law_stamped_S1 {l : Launch} {Ls : Nat} {xs : Nat → Int32} {c18 : Blk} {τ : Nat → List (Option Nat)} {h : PH} {j : Nat} (hΦ : Φ τ) (hj : 6 * j + 6 ≤ Ls) (hL : Ls ≤ 3072) (hh : all2 (gC ρ0 τ) HL_S1 h) (K : ∀ (τ2 : Nat → List (Option Nat)) (h2 : PH), Φ τ2 → HH τ2 h2 → c18 [some (.inr (some (.inr []))), some (.inr (some (.inl 0))), some (.inr (some (.inl 55))), some (.inl (f_add (nI (6 * j)) 6))] [] h2) : b_L_law_669 l Ls xs c18 [some (.inr (some (.inr []))), some (.inr (some (.inl 0))), some (.inr (some (.inl 55))), some (.inl (nI (6 * j)))] [] h := by
  refine And.intro (sv (k := 1) hj hL (by omega)) ?_
  refine And.intro (sv (k := 2) hj hL (by omega)) ?_
  refine And.intro (sv (k := 3) hj hL (by omega)) ?_
  refine And.intro (sv (k := 4) hj hL (by omega)) ?_
  refine And.intro (sv (k := 5) hj hL (by omega)) ?_
  refine callT (τ := τ) (tm := tmO [9, 14, 19, 24, 29, 32, 35, 54, 39, 40, 47]) (A := [.inl (-2147483648, 2147483647), .inl (-2147483648, 2147483647), .inl (-2147483648, 2147483647), .inl (-2147483648, 2147483647), .inl (-2147483648, 2147483647), .inr (.inr (some (.inl 0)))]) (H := HL_S1) (Ts := [([.inl (-2147483648, 2147483647)], HL_S1)]) hΦ s_X11_stamped ⟨topA_ok _, topA_ok _, topA_ok _, topA_ok _, topA_ok _, rfl, trivial⟩ hh (by decide +kernel) (fun T hT st h1 q1 q2 => ?_)
  cases List.mem_singleton.mp hT
  obtain ⟨v, rfl, _⟩ := st1 q1
  refine And.intro (sv (k := 1) hj hL (by omega)) ?_
  refine And.intro (sv (k := 2) hj hL (by omega)) ?_
  refine And.intro (sv (k := 3) hj hL (by omega)) ?_
  refine And.intro (sv (k := 4) hj hL (by omega)) ?_
  refine And.intro (sv (k := 5) hj hL (by omega)) ?_
  refine callT (τ := τ) (tm := tmO [56, 57, 58, 63, 65, 66, 67, 68, 69, 70, 71, 72, 73, 74, 75, 76, 77, 78, 79, 80, 81, 82, 83, 85, 86]) (A := [.inl (-2147483648, 2147483647), .inl (-2147483648, 2147483647), .inl (-2147483648, 2147483647), .inl (-2147483648, 2147483647), .inl (-2147483648, 2147483647), .inr (.inr (some (.inl 55)))]) (H := HL_S1) (Ts := [([.inl (-2147483648, 2147483647)], HL_S1)]) hΦ s_X12_stamped ⟨topA_ok _, topA_ok _, topA_ok _, topA_ok _, topA_ok _, rfl, trivial⟩ q2 (by decide +kernel) (fun T hT st h2 q3 q4 => ?_)
  cases List.mem_singleton.mp hT
  obtain ⟨w, rfl, _⟩ := st1 q3
  exact K τ h2 hΦ (Or.inl (Or.inl q4))

set_option maxRecDepth 100000 in
theorem g_law_hang_S1 {l : Launch} {Ls : Nat} {xs : Nat → Int32} {c18 : Blk} {τ : Nat → List (Option Nat)} {h : PH} {j : Nat} (hΦ : Φ τ) (hj : 6 * j + 6 ≤ Ls) (hL : Ls ≤ 3072) (hh : all2 (gC ρ0 τ) HL_S1 h) (K : ∀ (τ2 : Nat → List (Option Nat)) (h2 : PH), Φ τ2 → HH τ2 h2 → c18 [some (.inr (some (.inr []))), some (.inr (some (.inl 0))), some (.inr (some (.inl 55))), some (.inl (f_add (nI (6 * j)) 6))] [] h2) : b_L_law_732 l Ls xs c18 [some (.inr (some (.inr []))), some (.inr (some (.inl 0))), some (.inr (some (.inl 55))), some (.inl (nI (6 * j)))] [] h := by
  refine And.intro (sv (k := 1) hj hL (by omega)) ?_
  refine And.intro (sv (k := 2) hj hL (by omega)) ?_
  refine And.intro (sv (k := 3) hj hL (by omega)) ?_
  refine callT (τ := τ) (tm := tmO [9, 14, 19, 24, 29, 32, 35, 54, 39, 40, 47]) (A := [.inl (-2147483648, 2147483647), .inl (-2147483648, 2147483647), .inl (-2147483648, 2147483647), .inr (.inr (some (.inl 0)))]) (H := HL_S1) (Ts := [([.inl (-2147483648, 2147483647)], HL_S1)]) hΦ s_X11_hang ⟨topA_ok _, topA_ok _, topA_ok _, rfl, trivial⟩ hh (by decide +kernel) (fun T hT st h1 q1 q2 => ?_)
  cases List.mem_singleton.mp hT
  obtain ⟨v, rfl, _⟩ := st1 q1
  refine And.intro (sv (k := 1) hj hL (by omega)) ?_
  refine And.intro (sv (k := 2) hj hL (by omega)) ?_
  refine And.intro (sv (k := 3) hj hL (by omega)) ?_
  refine callT (τ := τ) (tm := tmO [56, 57, 58, 62, 63, 65, 66, 67, 68, 69, 70, 71, 72, 73, 74, 75, 76, 77, 78, 79, 80, 81, 82, 83, 85, 86]) (A := [.inl (-2147483648, 2147483647), .inl (-2147483648, 2147483647), .inl (-2147483648, 2147483647), .inr (.inr (some (.inl 55)))]) (H := HL_S1) (Ts := [([.inl (-2147483648, 2147483647)], HL_S1)]) hΦ s_X12_hang ⟨topA_ok _, topA_ok _, topA_ok _, rfl, trivial⟩ q2 (by decide +kernel) (fun T hT st h2 q3 q4 => ?_)
  cases List.mem_singleton.mp hT
  obtain ⟨w, rfl, _⟩ := st1 q3
  exact K τ h2 hΦ (Or.inl (Or.inl q4))

set_option maxRecDepth 100000 in
theorem g_law_falseOnes_S1 {l : Launch} {Ls : Nat} {xs : Nat → Int32} {c18 : Blk} {τ : Nat → List (Option Nat)} {h : PH} {j : Nat} (hΦ : Φ τ) (hj : 6 * j + 6 ≤ Ls) (hL : Ls ≤ 3072) (hh : all2 (gC ρ0 τ) HL_S1 h) (K : ∀ (τ2 : Nat → List (Option Nat)) (h2 : PH), Φ τ2 → HH τ2 h2 → c18 [some (.inr (some (.inr []))), some (.inr (some (.inl 0))), some (.inr (some (.inl 55))), some (.inl (f_add (nI (6 * j)) 6))] [] h2) : b_L_law_775 l Ls xs c18 [some (.inr (some (.inr []))), some (.inr (some (.inl 0))), some (.inr (some (.inl 55))), some (.inl (nI (6 * j)))] [] h := by
  refine And.intro (sv (k := 1) hj hL (by omega)) ?_
  refine And.intro (sv (k := 2) hj hL (by omega)) ?_
  refine And.intro (sv (k := 3) hj hL (by omega)) ?_
  refine And.intro (sv (k := 4) hj hL (by omega)) ?_
  refine And.intro (sv (k := 5) hj hL (by omega)) ?_
  refine callT (τ := τ) (tm := tmO [9, 14, 19, 24, 29, 32, 35, 54, 39, 40, 47]) (A := [.inl (-2147483648, 2147483647), .inl (-2147483648, 2147483647), .inl (-2147483648, 2147483647), .inl (-2147483648, 2147483647), .inl (-2147483648, 2147483647), .inr (.inr (some (.inl 0)))]) (H := HL_S1) (Ts := [([.inl (-2147483648, 2147483647)], HL_S1)]) hΦ s_X11_falseOnes ⟨topA_ok _, topA_ok _, topA_ok _, topA_ok _, topA_ok _, rfl, trivial⟩ hh (by decide +kernel) (fun T hT st h1 q1 q2 => ?_)
  cases List.mem_singleton.mp hT
  obtain ⟨v, rfl, _⟩ := st1 q1
  refine And.intro (sv (k := 1) hj hL (by omega)) ?_
  refine And.intro (sv (k := 2) hj hL (by omega)) ?_
  refine And.intro (sv (k := 3) hj hL (by omega)) ?_
  refine And.intro (sv (k := 4) hj hL (by omega)) ?_
  refine And.intro (sv (k := 5) hj hL (by omega)) ?_
  refine callT (τ := τ) (tm := tmO [56, 57, 58, 62, 63, 65, 66, 67, 68, 69, 70, 71, 72, 73, 74, 75, 76, 77, 78, 79, 80, 81, 82, 83, 85, 86]) (A := [.inl (-2147483648, 2147483647), .inl (-2147483648, 2147483647), .inl (-2147483648, 2147483647), .inl (-2147483648, 2147483647), .inl (-2147483648, 2147483647), .inr (.inr (some (.inl 55)))]) (H := HL_S1) (Ts := [([.inl (-2147483648, 2147483647)], HL_S1)]) hΦ s_X12_falseOnes ⟨topA_ok _, topA_ok _, topA_ok _, topA_ok _, topA_ok _, rfl, trivial⟩ q2 (by decide +kernel) (fun T hT st h2 q3 q4 => ?_)
  cases List.mem_singleton.mp hT
  obtain ⟨w, rfl, _⟩ := st1 q3
  exact K τ h2 hΦ (Or.inl (Or.inl q4))

set_option maxRecDepth 100000 in
theorem g_law_printed_S1 {l : Launch} {Ls : Nat} {xs : Nat → Int32} {c18 : Blk} {τ : Nat → List (Option Nat)} {h : PH} {j : Nat} (hΦ : Φ τ) (hj : 6 * j + 6 ≤ Ls) (hL : Ls ≤ 3072) (hh : all2 (gC ρ0 τ) HL_S1 h) (K : ∀ (τ2 : Nat → List (Option Nat)) (h2 : PH), Φ τ2 → HH τ2 h2 → c18 [some (.inr (some (.inr []))), some (.inr (some (.inl 0))), some (.inr (some (.inl 55))), some (.inl (f_add (nI (6 * j)) 6))] [] h2) : b_L_law_838 l Ls xs c18 [some (.inr (some (.inr []))), some (.inr (some (.inl 0))), some (.inr (some (.inl 55))), some (.inl (nI (6 * j)))] [] h := by
  refine And.intro (sv (k := 1) hj hL (by omega)) ?_
  refine callT (τ := τ) (tm := tmO [9, 14, 19, 24, 27, 29, 32, 35, 54, 39, 40, 47]) (A := [.inl (-2147483648, 2147483647), .inr (.inr (some (.inl 0)))]) (H := HL_S1) (Ts := [([.inl (-2147483648, 2147483647)], HL_S1)]) hΦ s_X11_printed ⟨topA_ok _, rfl, trivial⟩ hh (by decide +kernel) (fun T hT st h1 q1 q2 => ?_)
  cases List.mem_singleton.mp hT
  obtain ⟨v, rfl, _⟩ := st1 q1
  refine And.intro (sv (k := 1) hj hL (by omega)) ?_
  refine callT (τ := τ) (tm := tmO [56, 57, 58, 60, 61, 62, 63, 65, 66, 67, 68, 69, 70, 71, 72, 73, 74, 75, 76, 77, 78, 79, 80, 81, 82, 83, 84, 85, 86]) (A := [.inl (-2147483648, 2147483647), .inr (.inr (some (.inl 55)))]) (H := HL_S1) (Ts := [([.inl (-2147483648, 2147483647)], HL_S1)]) hΦ s_X12_printed ⟨topA_ok _, rfl, trivial⟩ q2 (by decide +kernel) (fun T hT st h2 q3 q4 => ?_)
  cases List.mem_singleton.mp hT
  obtain ⟨w, rfl, _⟩ := st1 q3
  exact K τ h2 hΦ (Or.inl (Or.inl q4))

set_option maxRecDepth 100000 in
theorem g_law_ship_S1 {l : Launch} {Ls : Nat} {xs : Nat → Int32} {c18 : Blk} {τ : Nat → List (Option Nat)} {h : PH} {j : Nat} (hΦ : Φ τ) (hj : 6 * j + 6 ≤ Ls) (hL : Ls ≤ 3072) (hh : all2 (gC ρ0 τ) HL_S1 h) (K : ∀ (τ2 : Nat → List (Option Nat)) (h2 : PH), Φ τ2 → HH τ2 h2 → c18 [some (.inr (some (.inr []))), some (.inr (some (.inl 0))), some (.inr (some (.inl 55))), some (.inl (f_add (nI (6 * j)) 6))] [] h2) : b_L_law_861 l Ls xs c18 [some (.inr (some (.inr []))), some (.inr (some (.inl 0))), some (.inr (some (.inl 55))), some (.inl (nI (6 * j)))] [] h := by
  refine And.intro (sv (k := 1) hj hL (by omega)) ?_
  refine And.intro (sv (k := 2) hj hL (by omega)) ?_
  refine callT (τ := τ) (tm := tmO [3, 9, 14, 19, 24, 27, 32, 35, 54, 39, 40, 47]) (A := [.inl (-2147483648, 2147483647), .inl (-2147483648, 2147483647), .inr (.inr (some (.inl 0)))]) (H := HL_S1) (Ts := [([.inl (-2147483648, 2147483647)], HL_S1)]) hΦ s_X11_ship ⟨topA_ok _, topA_ok _, rfl, trivial⟩ hh (by decide +kernel) (fun T hT st h1 q1 q2 => ?_)
  cases List.mem_singleton.mp hT
  obtain ⟨v, rfl, _⟩ := st1 q1
  refine And.intro (sv (k := 1) hj hL (by omega)) ?_
  refine And.intro (sv (k := 2) hj hL (by omega)) ?_
  refine callT (τ := τ) (tm := tmO [56, 57, 58, 59, 60, 61, 62, 63, 65, 66, 67, 68, 69, 70, 71, 72, 73, 74, 75, 76, 77, 78, 79, 80, 81, 82, 83, 84, 85, 86]) (A := [.inl (-2147483648, 2147483647), .inl (-2147483648, 2147483647), .inr (.inr (some (.inl 55)))]) (H := HL_S1) (Ts := [([.inl (-2147483648, 2147483647)], HL_S1)]) hΦ s_X12_ship ⟨topA_ok _, topA_ok _, rfl, trivial⟩ q2 (by decide +kernel) (fun T hT st h2 q3 q4 => ?_)
  cases List.mem_singleton.mp hT
  obtain ⟨w, rfl, _⟩ := st1 q3
  exact K τ h2 hΦ (Or.inl (Or.inl q4))

set_option maxRecDepth 100000 in
theorem g_law_mule_S1 {l : Launch} {Ls : Nat} {xs : Nat → Int32} {c18 : Blk} {τ : Nat → List (Option Nat)} {h : PH} {j : Nat} (hΦ : Φ τ) (hj : 6 * j + 6 ≤ Ls) (hL : Ls ≤ 3072) (hh : all2 (gC ρ0 τ) HL_S1 h) (K : ∀ (τ2 : Nat → List (Option Nat)) (h2 : PH), Φ τ2 → HH τ2 h2 → c18 [some (.inr (some (.inr []))), some (.inr (some (.inl 0))), some (.inr (some (.inl 55))), some (.inl (f_add (nI (6 * j)) 6))] [] h2) : b_L_law_894 l Ls xs c18 [some (.inr (some (.inr []))), some (.inr (some (.inl 0))), some (.inr (some (.inl 55))), some (.inl (nI (6 * j)))] [] h := by
  refine And.intro (sv (k := 1) hj hL (by omega)) ?_
  refine And.intro (sv (k := 2) hj hL (by omega)) ?_
  refine And.intro (sv (k := 3) hj hL (by omega)) ?_
  refine callT (τ := τ) (tm := tmO [3, 9, 14, 19, 24, 27, 32, 35, 54, 39, 40, 47]) (A := [.inl (-2147483648, 2147483647), .inl (-2147483648, 2147483647), .inl (-2147483648, 2147483647), .inr (.inr (some (.inl 0)))]) (H := HL_S1) (Ts := [([.inl (-2147483648, 2147483647)], HL_S1)]) hΦ s_X11_mule ⟨topA_ok _, topA_ok _, topA_ok _, rfl, trivial⟩ hh (by decide +kernel) (fun T hT st h1 q1 q2 => ?_)
  cases List.mem_singleton.mp hT
  obtain ⟨v, rfl, _⟩ := st1 q1
  refine And.intro (sv (k := 1) hj hL (by omega)) ?_
  refine And.intro (sv (k := 2) hj hL (by omega)) ?_
  refine And.intro (sv (k := 3) hj hL (by omega)) ?_
  refine callT (τ := τ) (tm := tmO [56, 57, 58, 59, 60, 61, 62, 63, 65, 66, 67, 68, 69, 70, 71, 72, 73, 74, 75, 76, 77, 78, 79, 80, 81, 82, 83, 84, 85, 86]) (A := [.inl (-2147483648, 2147483647), .inl (-2147483648, 2147483647), .inl (-2147483648, 2147483647), .inr (.inr (some (.inl 55)))]) (H := HL_S1) (Ts := [([.inl (-2147483648, 2147483647)], HL_S1)]) hΦ s_X12_mule ⟨topA_ok _, topA_ok _, topA_ok _, rfl, trivial⟩ q2 (by decide +kernel) (fun T hT st h2 q3 q4 => ?_)
  cases List.mem_singleton.mp hT
  obtain ⟨w, rfl, _⟩ := st1 q3
  exact K τ h2 hΦ (Or.inl (Or.inl q4))

set_option maxRecDepth 100000 in
theorem g_law_marks_S1 {l : Launch} {Ls : Nat} {xs : Nat → Int32} {c18 : Blk} {τ : Nat → List (Option Nat)} {h : PH} {j : Nat} (hΦ : Φ τ) (hj : 6 * j + 6 ≤ Ls) (hL : Ls ≤ 3072) (hh : all2 (gC ρ0 τ) HL_S1 h) (K : ∀ (τ2 : Nat → List (Option Nat)) (h2 : PH), Φ τ2 → HH τ2 h2 → c18 [some (.inr (some (.inr []))), some (.inr (some (.inl 0))), some (.inr (some (.inl 55))), some (.inl (f_add (nI (6 * j)) 6))] [] h2) : b_L_law_937 l Ls xs c18 [some (.inr (some (.inr []))), some (.inr (some (.inl 0))), some (.inr (some (.inl 55))), some (.inl (nI (6 * j)))] [] h := by
  refine And.intro (sv (k := 1) hj hL (by omega)) ?_
  refine And.intro (sv (k := 2) hj hL (by omega)) ?_
  refine callT (τ := τ) (tm := tmO [3, 9, 14, 19, 24, 27, 32, 35, 54, 39, 40, 47]) (A := [.inl (-2147483648, 2147483647), .inl (-2147483648, 2147483647), .inr (.inr (some (.inl 0)))]) (H := HL_S1) (Ts := [([.inl (-2147483648, 2147483647)], HL_S1)]) hΦ s_X11_marks ⟨topA_ok _, topA_ok _, rfl, trivial⟩ hh (by decide +kernel) (fun T hT st h1 q1 q2 => ?_)
  cases List.mem_singleton.mp hT
  obtain ⟨v, rfl, _⟩ := st1 q1
  refine And.intro (sv (k := 1) hj hL (by omega)) ?_
  refine And.intro (sv (k := 2) hj hL (by omega)) ?_
  refine callT (τ := τ) (tm := tmO [56, 57, 58, 59, 60, 61, 62, 63, 65, 66, 67, 68, 69, 70, 71, 72, 73, 74, 75, 76, 77, 78, 79, 80, 81, 82, 83, 84, 86]) (A := [.inl (-2147483648, 2147483647), .inl (-2147483648, 2147483647), .inr (.inr (some (.inl 55)))]) (H := HL_S1) (Ts := [([.inl (-2147483648, 2147483647)], HL_S1)]) hΦ s_X12_marks ⟨topA_ok _, topA_ok _, rfl, trivial⟩ q2 (by decide +kernel) (fun T hT st h2 q3 q4 => ?_)
  cases List.mem_singleton.mp hT
  obtain ⟨w, rfl, _⟩ := st1 q3
  exact K τ h2 hΦ (Or.inl (Or.inl q4))

set_option maxRecDepth 100000 in
theorem g_law_franked_S1 {l : Launch} {Ls : Nat} {xs : Nat → Int32} {c18 : Blk} {τ : Nat → List (Option Nat)} {h : PH} {j : Nat} (hΦ : Φ τ) (hj : 6 * j + 6 ≤ Ls) (hL : Ls ≤ 3072) (hh : all2 (gC ρ0 τ) HL_S1 h) (K : ∀ (τ2 : Nat → List (Option Nat)) (h2 : PH), Φ τ2 → HH τ2 h2 → c18 [some (.inr (some (.inr []))), some (.inr (some (.inl 0))), some (.inr (some (.inl 55))), some (.inl (f_add (nI (6 * j)) 6))] [] h2) : b_L_law_970 l Ls xs c18 [some (.inr (some (.inr []))), some (.inr (some (.inl 0))), some (.inr (some (.inl 55))), some (.inl (nI (6 * j)))] [] h := by
  refine And.intro (sv (k := 1) hj hL (by omega)) ?_
  refine And.intro (sv (k := 2) hj hL (by omega)) ?_
  refine callT (τ := τ) (tm := tmO [3, 9, 14, 19, 24, 27, 32, 35, 54, 39, 40, 47]) (A := [.inl (-2147483648, 2147483647), .inl (-2147483648, 2147483647), .inr (.inr (some (.inl 0)))]) (H := HL_S1) (Ts := [([.inl (-2147483648, 2147483647)], HL_S1)]) hΦ s_X11_franked ⟨topA_ok _, topA_ok _, rfl, trivial⟩ hh (by decide +kernel) (fun T hT st h1 q1 q2 => ?_)
  cases List.mem_singleton.mp hT
  obtain ⟨v, rfl, _⟩ := st1 q1
  refine And.intro (sv (k := 1) hj hL (by omega)) ?_
  refine And.intro (sv (k := 2) hj hL (by omega)) ?_
  refine callT (τ := τ) (tm := tmO [56, 57, 58, 59, 60, 61, 62, 63, 65, 66, 67, 68, 69, 70, 71, 72, 73, 74, 75, 76, 77, 78, 79, 80, 81, 82, 83, 84, 86]) (A := [.inl (-2147483648, 2147483647), .inl (-2147483648, 2147483647), .inr (.inr (some (.inl 55)))]) (H := HL_S1) (Ts := [([.inl (-2147483648, 2147483647)], HL_S1)]) hΦ s_X12_franked ⟨topA_ok _, topA_ok _, rfl, trivial⟩ q2 (by decide +kernel) (fun T hT st h2 q3 q4 => ?_)
  cases List.mem_singleton.mp hT
  obtain ⟨w, rfl, _⟩ := st1 q3
  exact K τ h2 hΦ (Or.inl (Or.inl q4))

set_option maxRecDepth 100000 in
theorem g_law_exchange_S1 {l : Launch} {Ls : Nat} {xs : Nat → Int32} {c18 : Blk} {τ : Nat → List (Option Nat)} {h : PH} {j : Nat} (hΦ : Φ τ) (hj : 6 * j + 6 ≤ Ls) (hL : Ls ≤ 3072) (hh : all2 (gC ρ0 τ) HL_S1 h) (K : ∀ (τ2 : Nat → List (Option Nat)) (h2 : PH), Φ τ2 → HH τ2 h2 → c18 [some (.inr (some (.inr []))), some (.inr (some (.inl 0))), some (.inr (some (.inl 55))), some (.inl (f_add (nI (6 * j)) 6))] [] h2) : b_L_law_1003 l Ls xs c18 [some (.inr (some (.inr []))), some (.inr (some (.inl 0))), some (.inr (some (.inl 55))), some (.inl (nI (6 * j)))] [] h := by
  refine And.intro (sv (k := 1) hj hL (by omega)) ?_
  refine And.intro (sv (k := 2) hj hL (by omega)) ?_
  refine callT (τ := τ) (tm := tmO [3, 9, 14, 19, 24, 27, 32, 35, 54, 39, 40, 47]) (A := [.inl (-2147483648, 2147483647), .inl (-2147483648, 2147483647), .inr (.inr (some (.inl 0)))]) (H := HL_S1) (Ts := [([.inl (-2147483648, 2147483647)], HL_S1)]) hΦ s_X11_exchange ⟨topA_ok _, topA_ok _, rfl, trivial⟩ hh (by decide +kernel) (fun T hT st h1 q1 q2 => ?_)
  cases List.mem_singleton.mp hT
  obtain ⟨v, rfl, _⟩ := st1 q1
  refine And.intro (sv (k := 1) hj hL (by omega)) ?_
  refine And.intro (sv (k := 2) hj hL (by omega)) ?_
  refine callT (τ := τ) (tm := tmO [56, 57, 58, 59, 60, 61, 62, 63, 65, 66, 67, 68, 69, 70, 71, 72, 73, 74, 75, 76, 77, 78, 79, 80, 81, 82, 83, 84, 85]) (A := [.inl (-2147483648, 2147483647), .inl (-2147483648, 2147483647), .inr (.inr (some (.inl 55)))]) (H := HL_S1) (Ts := [([.inl (-2147483648, 2147483647)], HL_S1)]) hΦ s_X12_exchange ⟨topA_ok _, topA_ok _, rfl, trivial⟩ q2 (by decide +kernel) (fun T hT st h2 q3 q4 => ?_)
  cases List.mem_singleton.mp hT
  obtain ⟨w, rfl, _⟩ := st1 q3
  exact K τ h2 hΦ (Or.inl (Or.inl q4))

set_option maxRecDepth 100000 in
theorem g_law_seed_S1 {l : Launch} {Ls : Nat} {xs : Nat → Int32} {c18 : Blk} {τ : Nat → List (Option Nat)} {h : PH} {j : Nat} (hΦ : Φ τ) (hj : 6 * j + 6 ≤ Ls) (hL : Ls ≤ 3072) (hh : all2 (gC ρ0 τ) HL_S1 h) (K : ∀ (τ2 : Nat → List (Option Nat)) (h2 : PH), Φ τ2 → HH τ2 h2 → c18 [some (.inr (some (.inr []))), some (.inr (some (.inl 0))), some (.inr (some (.inl 55))), some (.inl (f_add (nI (6 * j)) 6))] [] h2) : b_L_law_1036 l Ls xs c18 [some (.inr (some (.inr []))), some (.inr (some (.inl 0))), some (.inr (some (.inl 55))), some (.inl (nI (6 * j)))] [] h := by
  refine And.intro (sv (k := 1) hj hL (by omega)) ?_
  refine callT (τ := τ) (tm := tmO [1, 3, 14, 19, 24, 27, 29, 32, 35, 54, 39, 40, 47]) (A := [.inl (-2147483648, 2147483647), .inr (.inr (some (.inl 0)))]) (H := HL_S1) (Ts := [([.inl (-2147483648, 2147483647)], HL_S1)]) hΦ s_X11_seed ⟨topA_ok _, rfl, trivial⟩ hh (by decide +kernel) (fun T hT st h1 q1 q2 => ?_)
  cases List.mem_singleton.mp hT
  obtain ⟨v, rfl, _⟩ := st1 q1
  refine And.intro (sv (k := 1) hj hL (by omega)) ?_
  refine callT (τ := τ) (tm := tmO [57, 58, 59, 60, 61, 62, 63, 64, 65, 66, 67, 68, 69, 70, 71, 72, 73, 74, 75, 76, 77, 78, 79, 80, 81, 82, 83, 84, 85, 86]) (A := [.inl (-2147483648, 2147483647), .inr (.inr (some (.inl 55)))]) (H := HL_S1) (Ts := [([.inl (-2147483648, 2147483647)], HL_S1)]) hΦ s_X12_seed ⟨topA_ok _, rfl, trivial⟩ q2 (by decide +kernel) (fun T hT st h2 q3 q4 => ?_)
  cases List.mem_singleton.mp hT
  obtain ⟨w, rfl, _⟩ := st1 q3
  exact K τ h2 hΦ (Or.inl (Or.inl q4))

set_option maxRecDepth 100000 in
theorem g_law_keep_S1 {l : Launch} {Ls : Nat} {xs : Nat → Int32} {c18 : Blk} {τ : Nat → List (Option Nat)} {h : PH} {j : Nat} (hΦ : Φ τ) (hj : 6 * j + 6 ≤ Ls) (hL : Ls ≤ 3072) (hh : all2 (gC ρ0 τ) HL_S1 h) (K : ∀ (τ2 : Nat → List (Option Nat)) (h2 : PH), Φ τ2 → HH τ2 h2 → c18 [some (.inr (some (.inr []))), some (.inr (some (.inl 0))), some (.inr (some (.inl 55))), some (.inl (f_add (nI (6 * j)) 6))] [] h2) : b_L_law_1059 l Ls xs c18 [some (.inr (some (.inr []))), some (.inr (some (.inl 0))), some (.inr (some (.inl 55))), some (.inl (nI (6 * j)))] [] h := by
  refine callT (τ := τ) (tm := tmO [1, 3, 19, 24, 27, 29, 32, 35, 54, 39, 40, 47]) (A := [.inr (.inr (some (.inl 0)))]) (H := HL_S1) (Ts := [([.inl (-2147483648, 2147483647)], HL_S1_k1)]) hΦ s_X11_keep ⟨rfl, trivial⟩ hh (by decide +kernel) (fun T hT st h1 q1 q2 => ?_)
  cases List.mem_singleton.mp hT
  obtain ⟨v, rfl, _⟩ := st1 q1
  refine callT (τ := τ) (tm := tmO [57, 59, 60, 61, 62, 63, 64, 65, 66, 67, 68, 69, 70, 71, 72, 73, 74, 75, 76, 77, 78, 79, 80, 81, 82, 83, 84, 85, 86]) (A := [.inr (.inr (some (.inl 55)))]) (H := HL_S1_k1) (Ts := [([.inl (-2147483648, 2147483647)], HL_S1_k2)]) hΦ s_X12_keep ⟨rfl, trivial⟩ q2 (by decide +kernel) (fun T hT st h2 p1 p2 => ?_)
  cases List.mem_singleton.mp hT
  obtain ⟨w, rfl, _⟩ := st1 p1
  exact K (upT τ 201 1) h2 hΦ (Or.inl (Or.inl (mvH (k := 201) (c := 1) rfl (fun t ht => upT_ne ht) (by rw [upT_at]; rfl) (by decide) (by decide +kernel) p2)))

set_option maxRecDepth 100000 in
theorem g_law_undo_S1 {l : Launch} {Ls : Nat} {xs : Nat → Int32} {c18 : Blk} {τ : Nat → List (Option Nat)} {h : PH} {j : Nat} (hΦ : Φ τ) (hj : 6 * j + 6 ≤ Ls) (hL : Ls ≤ 3072) (hh : all2 (gC ρ0 τ) HL_S1 h) (K : ∀ (τ2 : Nat → List (Option Nat)) (h2 : PH), Φ τ2 → HH τ2 h2 → c18 [some (.inr (some (.inr []))), some (.inr (some (.inl 0))), some (.inr (some (.inl 55))), some (.inl (f_add (nI (6 * j)) 6))] [] h2) : b_L_law_1072 l Ls xs c18 [some (.inr (some (.inr []))), some (.inr (some (.inl 0))), some (.inr (some (.inl 55))), some (.inl (nI (6 * j)))] [] h := by
  have hr := tokR (i := 0) (j := 14) (t := 201) hh rfl rfl rfl
  have hr : 0 ≤ (decA (τ 201) 0).toInt ∧ (decA (τ 201) 0).toInt ≤ 1 := hr
  rcases (show (decA (τ 201) 0).toInt = 0 ∨ (decA (τ 201) 0).toInt = 1 by omega) with e | e
  · have hh := fxH (k := 201) (c := 0) (E := HL_S1_u0) rfl e (by decide +kernel) hh
    refine callT (τ := τ) (tm := tmO [1, 19, 24, 27, 29, 32, 35, 54, 39, 40, 47]) (A := [.inr (.inr (some (.inl 0)))]) (H := HL_S1_u0) (Ts := [([.inl (0, 0)], HL_S1_u0)]) hΦ s_X11_undo_0 ⟨rfl, trivial⟩ hh (by decide +kernel) (fun T hT st h1 q1 q2 => ?_)
    cases List.mem_singleton.mp hT
    obtain ⟨v, rfl, hv⟩ := st1 q1
    refine callT (τ := τ) (tm := tmO [57, 59, 60, 61, 62, 63, 64, 65, 66, 67, 68, 69, 70, 71, 72, 73, 74, 75, 76, 77, 78, 79, 80, 81, 82, 83, 84, 85, 86]) (A := [.inr (.inr (some (.inl 55))), .inl (0, 0)]) (H := HL_S1_u0) (Ts := [([.inl (0, 0), .inl (0, 0)], HL_S1_u0)]) hΦ s_X12_undo_0 ⟨rfl, hv, trivial⟩ q2 (by decide +kernel) (fun T hT st h2 p1 p2 => ?_)
    cases List.mem_singleton.mp hT
    obtain ⟨w, v2, rfl, hw, hv2⟩ := st2 p1
    obtain ⟨w, rfl, w1, w2⟩ := hw
    obtain ⟨v2, rfl, u1, u2⟩ := hv2
    refine And.intro (fun _ => ?_) (fun z => absurd (i32eq.mpr (by omega)) z)
    exact K τ h2 hΦ (Or.inl (Or.inl (mvH (k := 201) (c := 0) rfl (fun _ _ => rfl) e (by decide) (by decide +kernel) p2)))
  · have hh := fxH (k := 201) (c := 1) (E := HL_S1_k2) rfl e (by decide +kernel) hh
    refine callT (τ := τ) (tm := tmO [1, 19, 24, 27, 29, 32, 35, 54, 39, 40, 47]) (A := [.inr (.inr (some (.inl 0)))]) (H := HL_S1_k2) (Ts := [([.inl (1, 1)], HL_S1_k2)]) hΦ s_X11_undo_1 ⟨rfl, trivial⟩ hh (by decide +kernel) (fun T hT st h1 q1 q2 => ?_)
    cases List.mem_singleton.mp hT
    obtain ⟨v, rfl, hv⟩ := st1 q1
    refine callT (τ := τ) (tm := tmO [57, 59, 60, 61, 62, 63, 64, 65, 66, 67, 68, 69, 70, 71, 72, 73, 74, 75, 76, 77, 78, 79, 80, 81, 82, 83, 84, 85, 86]) (A := [.inr (.inr (some (.inl 55))), .inl (1, 1)]) (H := HL_S1_k2) (Ts := [([.inl (1, 1), .inl (1, 1)], HL_S1_k2)]) hΦ s_X12_undo_1 ⟨rfl, hv, trivial⟩ q2 (by decide +kernel) (fun T hT st h2 p1 p2 => ?_)
    cases List.mem_singleton.mp hT
    obtain ⟨w, v2, rfl, hw, hv2⟩ := st2 p1
    obtain ⟨w, rfl, w1, w2⟩ := hw
    obtain ⟨v2, rfl, u1, u2⟩ := hv2
    refine And.intro (fun _ => ?_) (fun z => absurd (i32eq.mpr (by omega)) z)
    exact K τ h2 hΦ (Or.inl (Or.inl (mvH (k := 201) (c := 1) rfl (fun _ _ => rfl) e (by decide) (by decide +kernel) p2)))

set_option maxRecDepth 100000 in
theorem g_law_check_S1 {l : Launch} {Ls : Nat} {xs : Nat → Int32} {c18 : Blk} {τ : Nat → List (Option Nat)} {h : PH} {j : Nat} (hΦ : Φ τ) (hj : 6 * j + 6 ≤ Ls) (hL : Ls ≤ 3072) (hh : all2 (gC ρ0 τ) HL_S1 h) (K : ∀ (τ2 : Nat → List (Option Nat)) (h2 : PH), Φ τ2 → HH τ2 h2 → c18 [some (.inr (some (.inr []))), some (.inr (some (.inl 0))), some (.inr (some (.inl 55))), some (.inl (f_add (nI (6 * j)) 6))] [] h2) : b_L_law_1085 l Ls xs c18 [some (.inr (some (.inr []))), some (.inr (some (.inl 0))), some (.inr (some (.inl 55))), some (.inl (nI (6 * j)))] [] h := by
  refine And.intro (sv (k := 1) hj hL (by omega)) ?_
  refine callT (τ := τ) (tm := tmO [3, 14, 19, 24, 27, 29, 32, 35, 54, 39, 40, 47]) (A := [.inl (-2147483648, 2147483647), .inr (.inr (some (.inl 0)))]) (H := HL_S1) (Ts := [([.inl (-2147483648, 2147483647)], HL_S1)]) hΦ s_X11_check ⟨topA_ok _, rfl, trivial⟩ hh (by decide +kernel) (fun T hT st h1 q1 q2 => ?_)
  cases List.mem_singleton.mp hT
  obtain ⟨v, rfl, _⟩ := st1 q1
  refine And.intro (sv (k := 1) hj hL (by omega)) ?_
  refine callT (τ := τ) (tm := tmO [57, 58, 59, 60, 61, 62, 63, 65, 66, 67, 68, 69, 70, 71, 72, 73, 74, 75, 76, 77, 78, 79, 80, 81, 82, 83, 84, 85, 86]) (A := [.inl (-2147483648, 2147483647), .inr (.inr (some (.inl 55)))]) (H := HL_S1) (Ts := [([.inl (-2147483648, 2147483647)], HL_S1)]) hΦ s_X12_check ⟨topA_ok _, rfl, trivial⟩ q2 (by decide +kernel) (fun T hT st h2 q3 q4 => ?_)
  cases List.mem_singleton.mp hT
  obtain ⟨w, rfl, _⟩ := st1 q3
  exact K τ h2 hΦ (Or.inl (Or.inl q4))

set_option maxRecDepth 100000 in
theorem g_law_count_S1 {l : Launch} {Ls : Nat} {xs : Nat → Int32} {c18 : Blk} {τ : Nat → List (Option Nat)} {h : PH} {j : Nat} (hΦ : Φ τ) (hj : 6 * j + 6 ≤ Ls) (hL : Ls ≤ 3072) (hh : all2 (gC ρ0 τ) HL_S1 h) (K : ∀ (τ2 : Nat → List (Option Nat)) (h2 : PH), Φ τ2 → HH τ2 h2 → c18 [some (.inr (some (.inr []))), some (.inr (some (.inl 0))), some (.inr (some (.inl 55))), some (.inl (f_add (nI (6 * j)) 6))] [] h2) : b_L_law_1108 l Ls xs c18 [some (.inr (some (.inr []))), some (.inr (some (.inl 0))), some (.inr (some (.inl 55))), some (.inl (nI (6 * j)))] [] h := by
  refine And.intro (sv (k := 1) hj hL (by omega)) ?_
  refine callT (τ := τ) (tm := tmO [14, 19, 24, 27, 29, 32, 35, 54, 39, 47]) (A := [.inl (-2147483648, 2147483647), .inr (.inr (some (.inl 0)))]) (H := HL_S1) (Ts := [([.inl (-2147483648, 2147483647)], HL_S1)]) hΦ s_X11_count ⟨topA_ok _, rfl, trivial⟩ hh (by decide +kernel) (fun T hT st h1 q1 q2 => ?_)
  cases List.mem_singleton.mp hT
  obtain ⟨v, rfl, _⟩ := st1 q1
  refine And.intro (sv (k := 1) hj hL (by omega)) ?_
  refine callT (τ := τ) (tm := tmO [57, 58, 60, 61, 63, 64, 65, 66, 67, 68, 69, 70, 71, 72, 73, 74, 75, 76, 77, 78, 79, 80, 81, 82, 83, 84, 85, 86]) (A := [.inl (-2147483648, 2147483647), .inr (.inr (some (.inl 55)))]) (H := HL_S1) (Ts := [([.inl (-2147483648, 2147483647)], HL_S1)]) hΦ s_X12_count ⟨topA_ok _, rfl, trivial⟩ q2 (by decide +kernel) (fun T hT st h2 q3 q4 => ?_)
  cases List.mem_singleton.mp hT
  obtain ⟨w, rfl, _⟩ := st1 q3
  exact K τ h2 hΦ (Or.inl (Or.inl q4))

set_option maxRecDepth 100000 in
theorem g_law_mint_R1 {l : Launch} {Ls : Nat} {xs : Nat → Int32} {c18 : Blk} {τ : Nat → List (Option Nat)} {h : PH} {j : Nat} (hΦ : Φ τ) (hj : 6 * j + 6 ≤ Ls) (hL : Ls ≤ 3072) (hh : all2 (gC ρ0 τ) HL_R1 h) (K : ∀ (τ2 : Nat → List (Option Nat)) (h2 : PH), Φ τ2 → HH τ2 h2 → c18 [some (.inr (some (.inr []))), some (.inr (some (.inl 0))), some (.inr (some (.inl 55))), some (.inl (f_add (nI (6 * j)) 6))] [] h2) : b_L_law_164 l Ls xs c18 [some (.inr (some (.inr []))), some (.inr (some (.inl 0))), some (.inr (some (.inl 55))), some (.inl (nI (6 * j)))] [] h := by
  refine And.intro (sv (k := 1) hj hL (by omega)) ?_
  refine And.intro (sv (k := 2) hj hL (by omega)) ?_
  refine And.intro (sv (k := 3) hj hL (by omega)) ?_
  refine callT (τ := τ) (tm := tmO [1, 9, 14, 19, 24, 27, 29, 32, 35, 54, 39, 40, 47]) (A := [.inl (-2147483648, 2147483647), .inl (-2147483648, 2147483647), .inl (-2147483648, 2147483647), .inr (.inr (some (.inl 0)))]) (H := HL_R1) (Ts := [([.inl (-2147483648, 2147483647)], HL_R1)]) hΦ s_X11_mint ⟨topA_ok _, topA_ok _, topA_ok _, rfl, trivial⟩ hh (by decide +kernel) (fun T hT st h1 q1 q2 => ?_)
  cases List.mem_singleton.mp hT
  obtain ⟨v, rfl, _⟩ := st1 q1
  refine And.intro (sv (k := 1) hj hL (by omega)) ?_
  refine And.intro (sv (k := 2) hj hL (by omega)) ?_
  refine And.intro (sv (k := 3) hj hL (by omega)) ?_
  refine callT (τ := τ) (tm := tmO [56, 57, 58, 60, 61, 62, 63, 64, 65, 66, 67, 68, 69, 70, 71, 72, 73, 74, 75, 76, 77, 78, 79, 80, 81, 82, 83, 84, 85, 86]) (A := [.inl (-2147483648, 2147483647), .inl (-2147483648, 2147483647), .inl (-2147483648, 2147483647), .inr (.inr (some (.inl 55)))]) (H := HL_R1) (Ts := [([.inl (-2147483648, 2147483647)], HL_R1)]) hΦ s_X12_mint ⟨topA_ok _, topA_ok _, topA_ok _, rfl, trivial⟩ q2 (by decide +kernel) (fun T hT st h2 q3 q4 => ?_)
  cases List.mem_singleton.mp hT
  obtain ⟨w, rfl, _⟩ := st1 q3
  exact K τ h2 hΦ (Or.inl (Or.inr q4))

set_option maxRecDepth 100000 in
theorem g_law_feed_R1 {l : Launch} {Ls : Nat} {xs : Nat → Int32} {c18 : Blk} {τ : Nat → List (Option Nat)} {h : PH} {j : Nat} (hΦ : Φ τ) (hj : 6 * j + 6 ≤ Ls) (hL : Ls ≤ 3072) (hh : all2 (gC ρ0 τ) HL_R1 h) (K : ∀ (τ2 : Nat → List (Option Nat)) (h2 : PH), Φ τ2 → HH τ2 h2 → c18 [some (.inr (some (.inr []))), some (.inr (some (.inl 0))), some (.inr (some (.inl 55))), some (.inl (f_add (nI (6 * j)) 6))] [] h2) : b_L_law_207 l Ls xs c18 [some (.inr (some (.inr []))), some (.inr (some (.inl 0))), some (.inr (some (.inl 55))), some (.inl (nI (6 * j)))] [] h := by
  refine And.intro (sv (k := 1) hj hL (by omega)) ?_
  refine And.intro (sv (k := 2) hj hL (by omega)) ?_
  refine And.intro (sv (k := 3) hj hL (by omega)) ?_
  refine And.intro (sv (k := 4) hj hL (by omega)) ?_
  refine And.intro (sv (k := 5) hj hL (by omega)) ?_
  refine callT (τ := τ) (tm := tmO [3, 9, 14, 19, 24, 27, 29, 32, 35, 54, 39, 40, 47]) (A := [.inl (-2147483648, 2147483647), .inl (-2147483648, 2147483647), .inl (-2147483648, 2147483647), .inl (-2147483648, 2147483647), .inl (-2147483648, 2147483647), .inr (.inr (some (.inl 0)))]) (H := HL_R1) (Ts := [([.inl (-2147483648, 2147483647)], HL_R1)]) hΦ s_X11_feed ⟨topA_ok _, topA_ok _, topA_ok _, topA_ok _, topA_ok _, rfl, trivial⟩ hh (by decide +kernel) (fun T hT st h1 q1 q2 => ?_)
  cases List.mem_singleton.mp hT
  obtain ⟨v, rfl, _⟩ := st1 q1
  refine And.intro (sv (k := 1) hj hL (by omega)) ?_
  refine And.intro (sv (k := 2) hj hL (by omega)) ?_
  refine And.intro (sv (k := 3) hj hL (by omega)) ?_
  refine And.intro (sv (k := 4) hj hL (by omega)) ?_
  refine And.intro (sv (k := 5) hj hL (by omega)) ?_
  refine callT (τ := τ) (tm := tmO [56, 57, 58, 59, 60, 61, 62, 63, 65, 66, 67, 68, 69, 70, 71, 72, 73, 74, 75, 76, 77, 78, 79, 80, 81, 82, 83, 84, 85, 86]) (A := [.inl (-2147483648, 2147483647), .inl (-2147483648, 2147483647), .inl (-2147483648, 2147483647), .inl (-2147483648, 2147483647), .inl (-2147483648, 2147483647), .inr (.inr (some (.inl 55)))]) (H := HL_R1) (Ts := [([.inl (-2147483648, 2147483647)], HL_R1)]) hΦ s_X12_feed ⟨topA_ok _, topA_ok _, topA_ok _, topA_ok _, topA_ok _, rfl, trivial⟩ q2 (by decide +kernel) (fun T hT st h2 q3 q4 => ?_)
  cases List.mem_singleton.mp hT
  obtain ⟨w, rfl, _⟩ := st1 q3
  exact K τ h2 hΦ (Or.inl (Or.inr q4))

set_option maxRecDepth 100000 in
theorem g_law_law_R1 {l : Launch} {Ls : Nat} {xs : Nat → Int32} {c18 : Blk} {τ : Nat → List (Option Nat)} {h : PH} {j : Nat} (hΦ : Φ τ) (hj : 6 * j + 6 ≤ Ls) (hL : Ls ≤ 3072) (hh : all2 (gC ρ0 τ) HL_R1 h) (K : ∀ (τ2 : Nat → List (Option Nat)) (h2 : PH), Φ τ2 → HH τ2 h2 → c18 [some (.inr (some (.inr []))), some (.inr (some (.inl 0))), some (.inr (some (.inl 55))), some (.inl (f_add (nI (6 * j)) 6))] [] h2) : b_L_law_270 l Ls xs c18 [some (.inr (some (.inr []))), some (.inr (some (.inl 0))), some (.inr (some (.inl 55))), some (.inl (nI (6 * j)))] [] h := by
  refine And.intro (sv (k := 1) hj hL (by omega)) ?_
  refine callT (τ := τ) (tm := tmO [3, 9, 14, 19, 24, 27, 29, 32, 35, 39, 40]) (A := [.inl (-2147483648, 2147483647), .inr (.inr (some (.inl 0)))]) (H := HL_R1) (Ts := [([.inl (-2147483648, 2147483647)], HL_S1), ([.inl (-2147483648, 2147483647)], HL_R1), ([.inl (-2147483648, 2147483647)], HL_S2), ([.inl (-2147483648, 2147483647)], HL_R2)]) hΦ s_X11_law_R ⟨topA_ok _, rfl, trivial⟩ hh (by decide +kernel) (fun T hT st h1 q1 q2 => ?_)
  rcases List.mem_cons.mp hT with rfl | hT
  · obtain ⟨v, rfl, _⟩ := st1 q1
    refine And.intro (sv (k := 1) hj hL (by omega)) ?_
    refine callL (τ := τ) (tm := tmO [56, 57, 58, 59, 60, 61, 62, 63, 76, 77, 78, 79, 80, 81, 82, 83, 84, 85, 86]) (A := [.inl (-2147483648, 2147483647), .inr (.inr (some (.inl 55)))]) (as := [.inr (.inr (some (.inl 55))), .inl (-2147483648, 2147483647)]) (H := HL_S1) (H2 := HL_S1) hΦ s_X12_law ⟨topA_ok _, rfl, trivial⟩ q2 rfl (by decide +kernel) (by decide +kernel) (by decide +kernel) (by decide +kernel) (fun τ2 p2 p3 y h2 q3 => ?_)
    exact K τ2 h2 p2 (Or.inl (Or.inl q3))
  rcases List.mem_cons.mp hT with rfl | hT
  · obtain ⟨v, rfl, _⟩ := st1 q1
    refine And.intro (sv (k := 1) hj hL (by omega)) ?_
    refine callL (τ := τ) (tm := tmO [56, 57, 58, 59, 60, 61, 62, 63, 76, 77, 78, 79, 80, 81, 82, 83, 84, 85, 86]) (A := [.inl (-2147483648, 2147483647), .inr (.inr (some (.inl 55)))]) (as := [.inr (.inr (some (.inl 55))), .inl (-2147483648, 2147483647)]) (H := HL_R1) (H2 := HL_R1) hΦ s_X12_law ⟨topA_ok _, rfl, trivial⟩ q2 rfl (by decide +kernel) (by decide +kernel) (by decide +kernel) (by decide +kernel) (fun τ2 p2 p3 y h2 q3 => ?_)
    exact K τ2 h2 p2 (Or.inl (Or.inr q3))
  rcases List.mem_cons.mp hT with rfl | hT
  · obtain ⟨v, rfl, _⟩ := st1 q1
    refine And.intro (sv (k := 1) hj hL (by omega)) ?_
    refine callL (τ := τ) (tm := tmO [56, 57, 58, 59, 60, 61, 62, 63, 76, 77, 78, 79, 80, 81, 82, 83, 84, 85, 86]) (A := [.inl (-2147483648, 2147483647), .inr (.inr (some (.inl 55)))]) (as := [.inr (.inr (some (.inl 55))), .inl (-2147483648, 2147483647)]) (H := HL_S2) (H2 := HL_S2) hΦ s_X12_law ⟨topA_ok _, rfl, trivial⟩ q2 rfl (by decide +kernel) (by decide +kernel) (by decide +kernel) (by decide +kernel) (fun τ2 p2 p3 y h2 q3 => ?_)
    exact K τ2 h2 p2 (Or.inr (Or.inl q3))
  cases List.mem_singleton.mp hT
  obtain ⟨v, rfl, _⟩ := st1 q1
  refine And.intro (sv (k := 1) hj hL (by omega)) ?_
  refine callL (τ := τ) (tm := tmO [56, 57, 58, 59, 60, 61, 62, 63, 76, 77, 78, 79, 80, 81, 82, 83, 84, 85, 86]) (A := [.inl (-2147483648, 2147483647), .inr (.inr (some (.inl 55)))]) (as := [.inr (.inr (some (.inl 55))), .inl (-2147483648, 2147483647)]) (H := HL_R2) (H2 := HL_R2) hΦ s_X12_law ⟨topA_ok _, rfl, trivial⟩ q2 rfl (by decide +kernel) (by decide +kernel) (by decide +kernel) (by decide +kernel) (fun τ2 p2 p3 y h2 q3 => ?_)
  exact K τ2 h2 p2 (Or.inr (Or.inr q3))

set_option maxRecDepth 100000 in
theorem g_law_sheet_R1 {l : Launch} {Ls : Nat} {xs : Nat → Int32} {c18 : Blk} {τ : Nat → List (Option Nat)} {h : PH} {j : Nat} (hΦ : Φ τ) (hj : 6 * j + 6 ≤ Ls) (hL : Ls ≤ 3072) (hh : all2 (gC ρ0 τ) HL_R1 h) (K : ∀ (τ2 : Nat → List (Option Nat)) (h2 : PH), Φ τ2 → HH τ2 h2 → c18 [some (.inr (some (.inr []))), some (.inr (some (.inl 0))), some (.inr (some (.inl 55))), some (.inl (f_add (nI (6 * j)) 6))] [] h2) : b_L_law_293 l Ls xs c18 [some (.inr (some (.inr []))), some (.inr (some (.inl 0))), some (.inr (some (.inl 55))), some (.inl (nI (6 * j)))] [] h := by
  refine And.intro (sv (k := 1) hj hL (by omega)) ?_
  refine callT (τ := τ) (tm := tmO [14, 19, 24, 27, 29, 35, 54, 39, 40, 47]) (A := [.inl (-2147483648, 2147483647), .inr (.inr (some (.inl 0)))]) (H := HL_R1) (Ts := [([.inl (-2147483648, 2147483647)], HL_R1)]) hΦ s_X11_sheet ⟨topA_ok _, rfl, trivial⟩ hh (by decide +kernel) (fun T hT st h1 q1 q2 => ?_)
  cases List.mem_singleton.mp hT
  obtain ⟨v, rfl, _⟩ := st1 q1
  refine And.intro (sv (k := 1) hj hL (by omega)) ?_
  refine callT (τ := τ) (tm := tmO [57, 58, 59, 62, 63, 65, 66, 67, 68, 69, 70, 71, 72, 73, 74, 75, 76, 77, 82, 83, 84, 85, 86]) (A := [.inl (-2147483648, 2147483647), .inr (.inr (some (.inl 55)))]) (H := HL_R1) (Ts := [([.inl (-2147483648, 2147483647)], HL_R1)]) hΦ s_X12_sheet ⟨topA_ok _, rfl, trivial⟩ q2 (by decide +kernel) (fun T hT st h2 q3 q4 => ?_)
  cases List.mem_singleton.mp hT
  obtain ⟨w, rfl, _⟩ := st1 q3
  exact K τ h2 hΦ (Or.inl (Or.inr q4))

set_option maxRecDepth 100000 in
theorem g_law_post_R1 {l : Launch} {Ls : Nat} {xs : Nat → Int32} {c18 : Blk} {τ : Nat → List (Option Nat)} {h : PH} {j : Nat} (hΦ : Φ τ) (hj : 6 * j + 6 ≤ Ls) (hL : Ls ≤ 3072) (hh : all2 (gC ρ0 τ) HL_R1 h) (K : ∀ (τ2 : Nat → List (Option Nat)) (h2 : PH), Φ τ2 → HH τ2 h2 → c18 [some (.inr (some (.inr []))), some (.inr (some (.inl 0))), some (.inr (some (.inl 55))), some (.inl (f_add (nI (6 * j)) 6))] [] h2) : b_L_law_316 l Ls xs c18 [some (.inr (some (.inr []))), some (.inr (some (.inl 0))), some (.inr (some (.inl 55))), some (.inl (nI (6 * j)))] [] h := by
  refine And.intro (sv (k := 1) hj hL (by omega)) ?_
  refine callT (τ := τ) (tm := tmO [14, 19, 24, 27, 29, 32, 54, 39, 40, 47]) (A := [.inl (-2147483648, 2147483647), .inr (.inr (some (.inl 0)))]) (H := HL_R1) (Ts := [([.inl (-2147483648, 2147483647)], HL_R1)]) hΦ s_X11_post ⟨topA_ok _, rfl, trivial⟩ hh (by decide +kernel) (fun T hT st h1 q1 q2 => ?_)
  cases List.mem_singleton.mp hT
  obtain ⟨v, rfl, _⟩ := st1 q1
  refine And.intro (sv (k := 1) hj hL (by omega)) ?_
  refine callT (τ := τ) (tm := tmO [58, 59, 60, 61, 65, 66, 67, 68, 69, 70, 71, 72, 73, 74, 75, 76, 77, 78, 79, 80, 81, 82, 83, 84, 85, 86]) (A := [.inl (-2147483648, 2147483647), .inr (.inr (some (.inl 55)))]) (H := HL_R1) (Ts := [([.inl (-2147483648, 2147483647)], HL_R1)]) hΦ s_X12_post ⟨topA_ok _, rfl, trivial⟩ q2 (by decide +kernel) (fun T hT st h2 q3 q4 => ?_)
  cases List.mem_singleton.mp hT
  obtain ⟨w, rfl, _⟩ := st1 q3
  exact K τ h2 hΦ (Or.inl (Or.inr q4))

set_option maxRecDepth 100000 in
theorem g_law_days_R1 {l : Launch} {Ls : Nat} {xs : Nat → Int32} {c18 : Blk} {τ : Nat → List (Option Nat)} {h : PH} {j : Nat} (hΦ : Φ τ) (hj : 6 * j + 6 ≤ Ls) (hL : Ls ≤ 3072) (hh : all2 (gC ρ0 τ) HL_R1 h) (K : ∀ (τ2 : Nat → List (Option Nat)) (h2 : PH), Φ τ2 → HH τ2 h2 → c18 [some (.inr (some (.inr []))), some (.inr (some (.inl 0))), some (.inr (some (.inl 55))), some (.inl (f_add (nI (6 * j)) 6))] [] h2) : b_L_law_339 l Ls xs c18 [some (.inr (some (.inr []))), some (.inr (some (.inl 0))), some (.inr (some (.inl 55))), some (.inl (nI (6 * j)))] [] h := by
  refine And.intro (sv (k := 1) hj hL (by omega)) ?_
  refine callT (τ := τ) (tm := tmO [1, 14, 19, 27, 29, 32, 35, 54, 39, 47]) (A := [.inl (-2147483648, 2147483647), .inr (.inr (some (.inl 0)))]) (H := HL_R1) (Ts := [([.inl (-2147483648, 2147483647)], HL_R1)]) hΦ s_X11_days ⟨topA_ok _, rfl, trivial⟩ hh (by decide +kernel) (fun T hT st h1 q1 q2 => ?_)
  cases List.mem_singleton.mp hT
  obtain ⟨v, rfl, _⟩ := st1 q1
  refine And.intro (sv (k := 1) hj hL (by omega)) ?_
  refine callT (τ := τ) (tm := tmO [57, 58, 63, 64, 65, 66, 67, 68, 69, 70, 78, 79, 80, 81, 83, 84, 85, 86]) (A := [.inl (-2147483648, 2147483647), .inr (.inr (some (.inl 55)))]) (H := HL_R1) (Ts := [([.inl (-2147483648, 2147483647)], HL_R1)]) hΦ s_X12_days ⟨topA_ok _, rfl, trivial⟩ q2 (by decide +kernel) (fun T hT st h2 q3 q4 => ?_)
  cases List.mem_singleton.mp hT
  obtain ⟨w, rfl, _⟩ := st1 q3
  exact K τ h2 hΦ (Or.inl (Or.inr q4))

set_option maxRecDepth 100000 in
theorem g_law_tried_R1 {l : Launch} {Ls : Nat} {xs : Nat → Int32} {c18 : Blk} {τ : Nat → List (Option Nat)} {h : PH} {j : Nat} (hΦ : Φ τ) (hj : 6 * j + 6 ≤ Ls) (hL : Ls ≤ 3072) (hh : all2 (gC ρ0 τ) HL_R1 h) (K : ∀ (τ2 : Nat → List (Option Nat)) (h2 : PH), Φ τ2 → HH τ2 h2 → c18 [some (.inr (some (.inr []))), some (.inr (some (.inl 0))), some (.inr (some (.inl 55))), some (.inl (f_add (nI (6 * j)) 6))] [] h2) : b_L_law_362 l Ls xs c18 [some (.inr (some (.inr []))), some (.inr (some (.inl 0))), some (.inr (some (.inl 55))), some (.inl (nI (6 * j)))] [] h := by
  refine And.intro (sv (k := 1) hj hL (by omega)) ?_
  refine And.intro (sv (k := 2) hj hL (by omega)) ?_
  refine callT (τ := τ) (tm := tmO [1, 14, 27, 29, 32, 35, 54, 39, 47]) (A := [.inl (-2147483648, 2147483647), .inl (-2147483648, 2147483647), .inr (.inr (some (.inl 0)))]) (H := HL_R1) (Ts := [([.inl (-2147483648, 2147483647)], HL_R1)]) hΦ s_X11_tried ⟨topA_ok _, topA_ok _, rfl, trivial⟩ hh (by decide +kernel) (fun T hT st h1 q1 q2 => ?_)
  cases List.mem_singleton.mp hT
  obtain ⟨v, rfl, _⟩ := st1 q1
  refine And.intro (sv (k := 1) hj hL (by omega)) ?_
  refine And.intro (sv (k := 2) hj hL (by omega)) ?_
  refine callT (τ := τ) (tm := tmO [58, 63, 64, 65, 66, 67, 68, 69, 70, 78, 79, 80, 81, 83, 84, 85, 86]) (A := [.inl (-2147483648, 2147483647), .inl (-2147483648, 2147483647), .inr (.inr (some (.inl 55)))]) (H := HL_R1) (Ts := [([.inl (-2147483648, 2147483647)], HL_R1)]) hΦ s_X12_tried ⟨topA_ok _, topA_ok _, rfl, trivial⟩ q2 (by decide +kernel) (fun T hT st h2 q3 q4 => ?_)
  cases List.mem_singleton.mp hT
  obtain ⟨w, rfl, _⟩ := st1 q3
  exact K τ h2 hΦ (Or.inl (Or.inr q4))

set_option maxRecDepth 100000 in
theorem g_law_letterIs_R1 {l : Launch} {Ls : Nat} {xs : Nat → Int32} {c18 : Blk} {τ : Nat → List (Option Nat)} {h : PH} {j : Nat} (hΦ : Φ τ) (hj : 6 * j + 6 ≤ Ls) (hL : Ls ≤ 3072) (hh : all2 (gC ρ0 τ) HL_R1 h) (K : ∀ (τ2 : Nat → List (Option Nat)) (h2 : PH), Φ τ2 → HH τ2 h2 → c18 [some (.inr (some (.inr []))), some (.inr (some (.inl 0))), some (.inr (some (.inl 55))), some (.inl (f_add (nI (6 * j)) 6))] [] h2) : b_L_law_395 l Ls xs c18 [some (.inr (some (.inr []))), some (.inr (some (.inl 0))), some (.inr (some (.inl 55))), some (.inl (nI (6 * j)))] [] h := by
  refine And.intro (sv (k := 1) hj hL (by omega)) ?_
  refine And.intro (sv (k := 2) hj hL (by omega)) ?_
  refine callT (τ := τ) (tm := tmO [1, 14, 19, 24, 27, 29, 32, 35, 54, 39, 40, 47]) (A := [.inl (-2147483648, 2147483647), .inl (-2147483648, 2147483647), .inr (.inr (some (.inl 0)))]) (H := HL_R1) (Ts := [([.inl (-2147483648, 2147483647)], HL_R1)]) hΦ s_X11_letterIs ⟨topA_ok _, topA_ok _, rfl, trivial⟩ hh (by decide +kernel) (fun T hT st h1 q1 q2 => ?_)
  cases List.mem_singleton.mp hT
  obtain ⟨v, rfl, _⟩ := st1 q1
  refine And.intro (sv (k := 1) hj hL (by omega)) ?_
  refine And.intro (sv (k := 2) hj hL (by omega)) ?_
  refine callT (τ := τ) (tm := tmO [57, 58, 62, 63, 64, 65, 66, 67, 68, 69, 70, 71, 72, 73, 74, 75, 76, 77, 78, 79, 80, 81, 82, 83, 84, 85, 86]) (A := [.inl (-2147483648, 2147483647), .inl (-2147483648, 2147483647), .inr (.inr (some (.inl 55)))]) (H := HL_R1) (Ts := [([.inl (-2147483648, 2147483647)], HL_R1)]) hΦ s_X12_letterIs ⟨topA_ok _, topA_ok _, rfl, trivial⟩ q2 (by decide +kernel) (fun T hT st h2 q3 q4 => ?_)
  cases List.mem_singleton.mp hT
  obtain ⟨w, rfl, _⟩ := st1 q3
  exact K τ h2 hΦ (Or.inl (Or.inr q4))

set_option maxRecDepth 100000 in
theorem g_law_stampIs_R1 {l : Launch} {Ls : Nat} {xs : Nat → Int32} {c18 : Blk} {τ : Nat → List (Option Nat)} {h : PH} {j : Nat} (hΦ : Φ τ) (hj : 6 * j + 6 ≤ Ls) (hL : Ls ≤ 3072) (hh : all2 (gC ρ0 τ) HL_R1 h) (K : ∀ (τ2 : Nat → List (Option Nat)) (h2 : PH), Φ τ2 → HH τ2 h2 → c18 [some (.inr (some (.inr []))), some (.inr (some (.inl 0))), some (.inr (some (.inl 55))), some (.inl (f_add (nI (6 * j)) 6))] [] h2) : b_L_law_428 l Ls xs c18 [some (.inr (some (.inr []))), some (.inr (some (.inl 0))), some (.inr (some (.inl 55))), some (.inl (nI (6 * j)))] [] h := by
  refine And.intro (sv (k := 1) hj hL (by omega)) ?_
  refine And.intro (sv (k := 2) hj hL (by omega)) ?_
  refine callT (τ := τ) (tm := tmO [1, 14, 19, 24, 27, 29, 32, 35, 54, 39, 40, 47]) (A := [.inl (-2147483648, 2147483647), .inl (-2147483648, 2147483647), .inr (.inr (some (.inl 0)))]) (H := HL_R1) (Ts := [([.inl (-2147483648, 2147483647)], HL_R1)]) hΦ s_X11_stampIs ⟨topA_ok _, topA_ok _, rfl, trivial⟩ hh (by decide +kernel) (fun T hT st h1 q1 q2 => ?_)
  cases List.mem_singleton.mp hT
  obtain ⟨v, rfl, _⟩ := st1 q1
  refine And.intro (sv (k := 1) hj hL (by omega)) ?_
  refine And.intro (sv (k := 2) hj hL (by omega)) ?_
  refine callT (τ := τ) (tm := tmO [57, 58, 59, 62, 63, 64, 65, 66, 67, 68, 69, 70, 71, 72, 73, 74, 75, 76, 77, 78, 79, 80, 81, 82, 83, 84, 85, 86]) (A := [.inl (-2147483648, 2147483647), .inl (-2147483648, 2147483647), .inr (.inr (some (.inl 55)))]) (H := HL_R1) (Ts := [([.inl (-2147483648, 2147483647)], HL_R1)]) hΦ s_X12_stampIs ⟨topA_ok _, topA_ok _, rfl, trivial⟩ q2 (by decide +kernel) (fun T hT st h2 q3 q4 => ?_)
  cases List.mem_singleton.mp hT
  obtain ⟨w, rfl, _⟩ := st1 q3
  exact K τ h2 hΦ (Or.inl (Or.inr q4))

set_option maxRecDepth 100000 in
theorem g_law_comes_R1 {l : Launch} {Ls : Nat} {xs : Nat → Int32} {c18 : Blk} {τ : Nat → List (Option Nat)} {h : PH} {j : Nat} (hΦ : Φ τ) (hj : 6 * j + 6 ≤ Ls) (hL : Ls ≤ 3072) (hh : all2 (gC ρ0 τ) HL_R1 h) (K : ∀ (τ2 : Nat → List (Option Nat)) (h2 : PH), Φ τ2 → HH τ2 h2 → c18 [some (.inr (some (.inr []))), some (.inr (some (.inl 0))), some (.inr (some (.inl 55))), some (.inl (f_add (nI (6 * j)) 6))] [] h2) : b_L_law_461 l Ls xs c18 [some (.inr (some (.inr []))), some (.inr (some (.inl 0))), some (.inr (some (.inl 55))), some (.inl (nI (6 * j)))] [] h := by
  refine And.intro (sv (k := 1) hj hL (by omega)) ?_
  refine And.intro (sv (k := 2) hj hL (by omega)) ?_
  refine And.intro (sv (k := 3) hj hL (by omega)) ?_
  refine callT (τ := τ) (tm := tmO [1, 14, 27, 29, 32, 35, 54, 39, 47]) (A := [.inl (-2147483648, 2147483647), .inl (-2147483648, 2147483647), .inl (-2147483648, 2147483647), .inr (.inr (some (.inl 0)))]) (H := HL_R1) (Ts := [([.inl (-2147483648, 2147483647)], HL_R1)]) hΦ s_X11_comes ⟨topA_ok _, topA_ok _, topA_ok _, rfl, trivial⟩ hh (by decide +kernel) (fun T hT st h1 q1 q2 => ?_)
  cases List.mem_singleton.mp hT
  obtain ⟨v, rfl, _⟩ := st1 q1
  refine And.intro (sv (k := 1) hj hL (by omega)) ?_
  refine And.intro (sv (k := 2) hj hL (by omega)) ?_
  refine And.intro (sv (k := 3) hj hL (by omega)) ?_
  refine callT (τ := τ) (tm := tmO [58, 63, 64, 65, 66, 67, 68, 69, 70, 78, 79, 80, 81, 83, 84, 85, 86]) (A := [.inl (-2147483648, 2147483647), .inl (-2147483648, 2147483647), .inl (-2147483648, 2147483647), .inr (.inr (some (.inl 55)))]) (H := HL_R1) (Ts := [([.inl (-2147483648, 2147483647)], HL_R1)]) hΦ s_X12_comes ⟨topA_ok _, topA_ok _, topA_ok _, rfl, trivial⟩ q2 (by decide +kernel) (fun T hT st h2 q3 q4 => ?_)
  cases List.mem_singleton.mp hT
  obtain ⟨w, rfl, _⟩ := st1 q3
  exact K τ h2 hΦ (Or.inl (Or.inr q4))

set_option maxRecDepth 100000 in
theorem g_law_atRest_R1 {l : Launch} {Ls : Nat} {xs : Nat → Int32} {c18 : Blk} {τ : Nat → List (Option Nat)} {h : PH} {j : Nat} (hΦ : Φ τ) (hj : 6 * j + 6 ≤ Ls) (hL : Ls ≤ 3072) (hh : all2 (gC ρ0 τ) HL_R1 h) (K : ∀ (τ2 : Nat → List (Option Nat)) (h2 : PH), Φ τ2 → HH τ2 h2 → c18 [some (.inr (some (.inr []))), some (.inr (some (.inl 0))), some (.inr (some (.inl 55))), some (.inl (f_add (nI (6 * j)) 6))] [] h2) : b_L_law_504 l Ls xs c18 [some (.inr (some (.inr []))), some (.inr (some (.inl 0))), some (.inr (some (.inl 55))), some (.inl (nI (6 * j)))] [] h := by
  refine And.intro (sv (k := 1) hj hL (by omega)) ?_
  refine And.intro (sv (k := 2) hj hL (by omega)) ?_
  refine callT (τ := τ) (tm := tmO [1, 14, 27, 29, 32, 35, 54, 39, 47]) (A := [.inl (-2147483648, 2147483647), .inl (-2147483648, 2147483647), .inr (.inr (some (.inl 0)))]) (H := HL_R1) (Ts := [([.inl (-2147483648, 2147483647)], HL_R1)]) hΦ s_X11_atRest ⟨topA_ok _, topA_ok _, rfl, trivial⟩ hh (by decide +kernel) (fun T hT st h1 q1 q2 => ?_)
  cases List.mem_singleton.mp hT
  obtain ⟨v, rfl, _⟩ := st1 q1
  refine And.intro (sv (k := 1) hj hL (by omega)) ?_
  refine And.intro (sv (k := 2) hj hL (by omega)) ?_
  refine callT (τ := τ) (tm := tmO [58, 63, 64, 65, 66, 67, 68, 69, 70, 78, 79, 80, 81, 83, 84, 85, 86]) (A := [.inl (-2147483648, 2147483647), .inl (-2147483648, 2147483647), .inr (.inr (some (.inl 55)))]) (H := HL_R1) (Ts := [([.inl (-2147483648, 2147483647)], HL_R1)]) hΦ s_X12_atRest ⟨topA_ok _, topA_ok _, rfl, trivial⟩ q2 (by decide +kernel) (fun T hT st h2 q3 q4 => ?_)
  cases List.mem_singleton.mp hT
  obtain ⟨w, rfl, _⟩ := st1 q3
  exact K τ h2 hΦ (Or.inl (Or.inr q4))

set_option maxRecDepth 100000 in
theorem g_law_meet_R1 {l : Launch} {Ls : Nat} {xs : Nat → Int32} {c18 : Blk} {τ : Nat → List (Option Nat)} {h : PH} {j : Nat} (hΦ : Φ τ) (hj : 6 * j + 6 ≤ Ls) (hL : Ls ≤ 3072) (hh : all2 (gC ρ0 τ) HL_R1 h) (K : ∀ (τ2 : Nat → List (Option Nat)) (h2 : PH), Φ τ2 → HH τ2 h2 → c18 [some (.inr (some (.inr []))), some (.inr (some (.inl 0))), some (.inr (some (.inl 55))), some (.inl (f_add (nI (6 * j)) 6))] [] h2) : b_L_law_537 l Ls xs c18 [some (.inr (some (.inr []))), some (.inr (some (.inl 0))), some (.inr (some (.inl 55))), some (.inl (nI (6 * j)))] [] h := by
  refine And.intro (sv (k := 1) hj hL (by omega)) ?_
  refine And.intro (sv (k := 2) hj hL (by omega)) ?_
  refine And.intro (sv (k := 3) hj hL (by omega)) ?_
  refine callT (τ := τ) (tm := tmO [1, 14, 27, 29, 32, 35, 54, 39, 47]) (A := [.inl (-2147483648, 2147483647), .inl (-2147483648, 2147483647), .inl (-2147483648, 2147483647), .inr (.inr (some (.inl 0)))]) (H := HL_R1) (Ts := [([.inl (-2147483648, 2147483647)], HL_R1)]) hΦ s_X11_meet ⟨topA_ok _, topA_ok _, topA_ok _, rfl, trivial⟩ hh (by decide +kernel) (fun T hT st h1 q1 q2 => ?_)
  cases List.mem_singleton.mp hT
  obtain ⟨v, rfl, _⟩ := st1 q1
  refine And.intro (sv (k := 1) hj hL (by omega)) ?_
  refine And.intro (sv (k := 2) hj hL (by omega)) ?_
  refine And.intro (sv (k := 3) hj hL (by omega)) ?_
  refine callT (τ := τ) (tm := tmO [58, 63, 64, 65, 66, 67, 68, 69, 70, 78, 79, 80, 81, 83, 84, 85, 86]) (A := [.inl (-2147483648, 2147483647), .inl (-2147483648, 2147483647), .inl (-2147483648, 2147483647), .inr (.inr (some (.inl 55)))]) (H := HL_R1) (Ts := [([.inl (-2147483648, 2147483647)], HL_R1)]) hΦ s_X12_meet ⟨topA_ok _, topA_ok _, topA_ok _, rfl, trivial⟩ q2 (by decide +kernel) (fun T hT st h2 q3 q4 => ?_)
  cases List.mem_singleton.mp hT
  obtain ⟨w, rfl, _⟩ := st1 q3
  exact K τ h2 hΦ (Or.inl (Or.inr q4))

set_option maxRecDepth 100000 in
theorem g_law_again_R1 {l : Launch} {Ls : Nat} {xs : Nat → Int32} {c18 : Blk} {τ : Nat → List (Option Nat)} {h : PH} {j : Nat} (hΦ : Φ τ) (hj : 6 * j + 6 ≤ Ls) (hL : Ls ≤ 3072) (hh : all2 (gC ρ0 τ) HL_R1 h) (K : ∀ (τ2 : Nat → List (Option Nat)) (h2 : PH), Φ τ2 → HH τ2 h2 → c18 [some (.inr (some (.inr []))), some (.inr (some (.inl 0))), some (.inr (some (.inl 55))), some (.inl (f_add (nI (6 * j)) 6))] [] h2) : b_L_law_580 l Ls xs c18 [some (.inr (some (.inr []))), some (.inr (some (.inl 0))), some (.inr (some (.inl 55))), some (.inl (nI (6 * j)))] [] h := by
  refine And.intro (sv (k := 1) hj hL (by omega)) ?_
  refine And.intro (sv (k := 2) hj hL (by omega)) ?_
  refine callT (τ := τ) (tm := tmO [1, 14, 27, 29, 32, 35, 54, 47]) (A := [.inl (-2147483648, 2147483647), .inl (-2147483648, 2147483647), .inr (.inr (some (.inl 0)))]) (H := HL_R1) (Ts := [([.inl (-2147483648, 2147483647)], HL_R1)]) hΦ s_X11_again ⟨topA_ok _, topA_ok _, rfl, trivial⟩ hh (by decide +kernel) (fun T hT st h1 q1 q2 => ?_)
  cases List.mem_singleton.mp hT
  obtain ⟨v, rfl, _⟩ := st1 q1
  refine And.intro (sv (k := 1) hj hL (by omega)) ?_
  refine And.intro (sv (k := 2) hj hL (by omega)) ?_
  refine callT (τ := τ) (tm := tmO [58, 63, 64, 65, 66, 67, 68, 69, 70, 78, 79, 80, 81, 84, 85, 86]) (A := [.inl (-2147483648, 2147483647), .inl (-2147483648, 2147483647), .inr (.inr (some (.inl 55)))]) (H := HL_R1) (Ts := [([.inl (-2147483648, 2147483647)], HL_R1)]) hΦ s_X12_again ⟨topA_ok _, topA_ok _, rfl, trivial⟩ q2 (by decide +kernel) (fun T hT st h2 q3 q4 => ?_)
  cases List.mem_singleton.mp hT
  obtain ⟨w, rfl, _⟩ := st1 q3
  exact K τ h2 hΦ (Or.inl (Or.inr q4))

set_option maxRecDepth 100000 in
theorem g_law_home_R1 {l : Launch} {Ls : Nat} {xs : Nat → Int32} {c18 : Blk} {τ : Nat → List (Option Nat)} {h : PH} {j : Nat} (hΦ : Φ τ) (hj : 6 * j + 6 ≤ Ls) (hL : Ls ≤ 3072) (hh : all2 (gC ρ0 τ) HL_R1 h) (K : ∀ (τ2 : Nat → List (Option Nat)) (h2 : PH), Φ τ2 → HH τ2 h2 → c18 [some (.inr (some (.inr []))), some (.inr (some (.inl 0))), some (.inr (some (.inl 55))), some (.inl (f_add (nI (6 * j)) 6))] [] h2) : b_L_law_613 l Ls xs c18 [some (.inr (some (.inr []))), some (.inr (some (.inl 0))), some (.inr (some (.inl 55))), some (.inl (nI (6 * j)))] [] h := by
  refine And.intro (sv (k := 1) hj hL (by omega)) ?_
  refine And.intro (sv (k := 2) hj hL (by omega)) ?_
  refine callT (τ := τ) (tm := tmO [1, 14, 19, 24, 27, 29, 32, 35, 54, 39, 40, 47]) (A := [.inl (-2147483648, 2147483647), .inl (-2147483648, 2147483647), .inr (.inr (some (.inl 0)))]) (H := HL_R1) (Ts := [([.inl (-2147483648, 2147483647)], HL_R1)]) hΦ s_X11_home ⟨topA_ok _, topA_ok _, rfl, trivial⟩ hh (by decide +kernel) (fun T hT st h1 q1 q2 => ?_)
  cases List.mem_singleton.mp hT
  obtain ⟨v, rfl, _⟩ := st1 q1
  refine And.intro (sv (k := 1) hj hL (by omega)) ?_
  refine And.intro (sv (k := 2) hj hL (by omega)) ?_
  refine callT (τ := τ) (tm := tmO [57, 58, 59, 62, 63, 64, 65, 66, 67, 68, 69, 70, 71, 72, 73, 74, 75, 76, 77, 78, 79, 80, 81, 82, 83, 84, 85, 86]) (A := [.inl (-2147483648, 2147483647), .inl (-2147483648, 2147483647), .inr (.inr (some (.inl 55)))]) (H := HL_R1) (Ts := [([.inl (-2147483648, 2147483647)], HL_R1)]) hΦ s_X12_home ⟨topA_ok _, topA_ok _, rfl, trivial⟩ q2 (by decide +kernel) (fun T hT st h2 q3 q4 => ?_)
  cases List.mem_singleton.mp hT
  obtain ⟨w, rfl, _⟩ := st1 q3
  exact K τ h2 hΦ (Or.inl (Or.inr q4))

set_option maxRecDepth 100000 in
theorem g_law_lying_R1 {l : Launch} {Ls : Nat} {xs : Nat → Int32} {c18 : Blk} {τ : Nat → List (Option Nat)} {h : PH} {j : Nat} (hΦ : Φ τ) (hj : 6 * j + 6 ≤ Ls) (hL : Ls ≤ 3072) (hh : all2 (gC ρ0 τ) HL_R1 h) (K : ∀ (τ2 : Nat → List (Option Nat)) (h2 : PH), Φ τ2 → HH τ2 h2 → c18 [some (.inr (some (.inr []))), some (.inr (some (.inl 0))), some (.inr (some (.inl 55))), some (.inl (f_add (nI (6 * j)) 6))] [] h2) : b_L_law_646 l Ls xs c18 [some (.inr (some (.inr []))), some (.inr (some (.inl 0))), some (.inr (some (.inl 55))), some (.inl (nI (6 * j)))] [] h := by
  refine And.intro (sv (k := 1) hj hL (by omega)) ?_
  refine callT (τ := τ) (tm := tmO [1, 3, 14, 19, 24, 27, 29, 32, 35, 54, 39, 40, 47]) (A := [.inl (-2147483648, 2147483647), .inr (.inr (some (.inl 0)))]) (H := HL_R1) (Ts := [([.inl (-2147483648, 2147483647)], HL_R1)]) hΦ s_X11_lying ⟨topA_ok _, rfl, trivial⟩ hh (by decide +kernel) (fun T hT st h1 q1 q2 => ?_)
  cases List.mem_singleton.mp hT
  obtain ⟨v, rfl, _⟩ := st1 q1
  refine And.intro (sv (k := 1) hj hL (by omega)) ?_
  refine callT (τ := τ) (tm := tmO [57, 58, 59, 60, 61, 62, 63, 64, 65, 66, 67, 68, 69, 70, 71, 72, 73, 74, 75, 76, 77, 78, 79, 80, 81, 82, 83, 84, 85, 86]) (A := [.inl (-2147483648, 2147483647), .inr (.inr (some (.inl 55)))]) (H := HL_R1) (Ts := [([.inl (-2147483648, 2147483647)], HL_R1)]) hΦ s_X12_lying ⟨topA_ok _, rfl, trivial⟩ q2 (by decide +kernel) (fun T hT st h2 q3 q4 => ?_)
  cases List.mem_singleton.mp hT
  obtain ⟨w, rfl, _⟩ := st1 q3
  exact K τ h2 hΦ (Or.inl (Or.inr q4))

set_option maxRecDepth 100000 in
theorem g_law_stamped_R1 {l : Launch} {Ls : Nat} {xs : Nat → Int32} {c18 : Blk} {τ : Nat → List (Option Nat)} {h : PH} {j : Nat} (hΦ : Φ τ) (hj : 6 * j + 6 ≤ Ls) (hL : Ls ≤ 3072) (hh : all2 (gC ρ0 τ) HL_R1 h) (K : ∀ (τ2 : Nat → List (Option Nat)) (h2 : PH), Φ τ2 → HH τ2 h2 → c18 [some (.inr (some (.inr []))), some (.inr (some (.inl 0))), some (.inr (some (.inl 55))), some (.inl (f_add (nI (6 * j)) 6))] [] h2) : b_L_law_669 l Ls xs c18 [some (.inr (some (.inr []))), some (.inr (some (.inl 0))), some (.inr (some (.inl 55))), some (.inl (nI (6 * j)))] [] h := by
  refine And.intro (sv (k := 1) hj hL (by omega)) ?_
  refine And.intro (sv (k := 2) hj hL (by omega)) ?_
  refine And.intro (sv (k := 3) hj hL (by omega)) ?_
  refine And.intro (sv (k := 4) hj hL (by omega)) ?_
  refine And.intro (sv (k := 5) hj hL (by omega)) ?_
  refine callT (τ := τ) (tm := tmO [9, 14, 19, 24, 29, 32, 35, 54, 39, 40, 47]) (A := [.inl (-2147483648, 2147483647), .inl (-2147483648, 2147483647), .inl (-2147483648, 2147483647), .inl (-2147483648, 2147483647), .inl (-2147483648, 2147483647), .inr (.inr (some (.inl 0)))]) (H := HL_R1) (Ts := [([.inl (-2147483648, 2147483647)], HL_R1)]) hΦ s_X11_stamped ⟨topA_ok _, topA_ok _, topA_ok _, topA_ok _, topA_ok _, rfl, trivial⟩ hh (by decide +kernel) (fun T hT st h1 q1 q2 => ?_)
  cases List.mem_singleton.mp hT
  obtain ⟨v, rfl, _⟩ := st1 q1
  refine And.intro (sv (k := 1) hj hL (by omega)) ?_
  refine And.intro (sv (k := 2) hj hL (by omega)) ?_
  refine And.intro (sv (k := 3) hj hL (by omega)) ?_
  refine And.intro (sv (k := 4) hj hL (by omega)) ?_
  refine And.intro (sv (k := 5) hj hL (by omega)) ?_
  refine callT (τ := τ) (tm := tmO [56, 57, 58, 63, 65, 66, 67, 68, 69, 70, 71, 72, 73, 74, 75, 76, 77, 78, 79, 80, 81, 82, 83, 85, 86]) (A := [.inl (-2147483648, 2147483647), .inl (-2147483648, 2147483647), .inl (-2147483648, 2147483647), .inl (-2147483648, 2147483647), .inl (-2147483648, 2147483647), .inr (.inr (some (.inl 55)))]) (H := HL_R1) (Ts := [([.inl (-2147483648, 2147483647)], HL_R1)]) hΦ s_X12_stamped ⟨topA_ok _, topA_ok _, topA_ok _, topA_ok _, topA_ok _, rfl, trivial⟩ q2 (by decide +kernel) (fun T hT st h2 q3 q4 => ?_)
  cases List.mem_singleton.mp hT
  obtain ⟨w, rfl, _⟩ := st1 q3
  exact K τ h2 hΦ (Or.inl (Or.inr q4))

set_option maxRecDepth 100000 in
theorem g_law_hang_R1 {l : Launch} {Ls : Nat} {xs : Nat → Int32} {c18 : Blk} {τ : Nat → List (Option Nat)} {h : PH} {j : Nat} (hΦ : Φ τ) (hj : 6 * j + 6 ≤ Ls) (hL : Ls ≤ 3072) (hh : all2 (gC ρ0 τ) HL_R1 h) (K : ∀ (τ2 : Nat → List (Option Nat)) (h2 : PH), Φ τ2 → HH τ2 h2 → c18 [some (.inr (some (.inr []))), some (.inr (some (.inl 0))), some (.inr (some (.inl 55))), some (.inl (f_add (nI (6 * j)) 6))] [] h2) : b_L_law_732 l Ls xs c18 [some (.inr (some (.inr []))), some (.inr (some (.inl 0))), some (.inr (some (.inl 55))), some (.inl (nI (6 * j)))] [] h := by
  refine And.intro (sv (k := 1) hj hL (by omega)) ?_
  refine And.intro (sv (k := 2) hj hL (by omega)) ?_
  refine And.intro (sv (k := 3) hj hL (by omega)) ?_
  refine callT (τ := τ) (tm := tmO [9, 14, 19, 24, 29, 32, 35, 54, 39, 40, 47]) (A := [.inl (-2147483648, 2147483647), .inl (-2147483648, 2147483647), .inl (-2147483648, 2147483647), .inr (.inr (some (.inl 0)))]) (H := HL_R1) (Ts := [([.inl (-2147483648, 2147483647)], HL_R1)]) hΦ s_X11_hang ⟨topA_ok _, topA_ok _, topA_ok _, rfl, trivial⟩ hh (by decide +kernel) (fun T hT st h1 q1 q2 => ?_)
  cases List.mem_singleton.mp hT
  obtain ⟨v, rfl, _⟩ := st1 q1
  refine And.intro (sv (k := 1) hj hL (by omega)) ?_
  refine And.intro (sv (k := 2) hj hL (by omega)) ?_
  refine And.intro (sv (k := 3) hj hL (by omega)) ?_
  refine callT (τ := τ) (tm := tmO [56, 57, 58, 62, 63, 65, 66, 67, 68, 69, 70, 71, 72, 73, 74, 75, 76, 77, 78, 79, 80, 81, 82, 83, 85, 86]) (A := [.inl (-2147483648, 2147483647), .inl (-2147483648, 2147483647), .inl (-2147483648, 2147483647), .inr (.inr (some (.inl 55)))]) (H := HL_R1) (Ts := [([.inl (-2147483648, 2147483647)], HL_R1)]) hΦ s_X12_hang ⟨topA_ok _, topA_ok _, topA_ok _, rfl, trivial⟩ q2 (by decide +kernel) (fun T hT st h2 q3 q4 => ?_)
  cases List.mem_singleton.mp hT
  obtain ⟨w, rfl, _⟩ := st1 q3
  exact K τ h2 hΦ (Or.inl (Or.inr q4))

set_option maxRecDepth 100000 in
theorem g_law_falseOnes_R1 {l : Launch} {Ls : Nat} {xs : Nat → Int32} {c18 : Blk} {τ : Nat → List (Option Nat)} {h : PH} {j : Nat} (hΦ : Φ τ) (hj : 6 * j + 6 ≤ Ls) (hL : Ls ≤ 3072) (hh : all2 (gC ρ0 τ) HL_R1 h) (K : ∀ (τ2 : Nat → List (Option Nat)) (h2 : PH), Φ τ2 → HH τ2 h2 → c18 [some (.inr (some (.inr []))), some (.inr (some (.inl 0))), some (.inr (some (.inl 55))), some (.inl (f_add (nI (6 * j)) 6))] [] h2) : b_L_law_775 l Ls xs c18 [some (.inr (some (.inr []))), some (.inr (some (.inl 0))), some (.inr (some (.inl 55))), some (.inl (nI (6 * j)))] [] h := by
  refine And.intro (sv (k := 1) hj hL (by omega)) ?_
  refine And.intro (sv (k := 2) hj hL (by omega)) ?_
  refine And.intro (sv (k := 3) hj hL (by omega)) ?_
  refine And.intro (sv (k := 4) hj hL (by omega)) ?_
  refine And.intro (sv (k := 5) hj hL (by omega)) ?_
  refine callT (τ := τ) (tm := tmO [9, 14, 19, 24, 29, 32, 35, 54, 39, 40, 47]) (A := [.inl (-2147483648, 2147483647), .inl (-2147483648, 2147483647), .inl (-2147483648, 2147483647), .inl (-2147483648, 2147483647), .inl (-2147483648, 2147483647), .inr (.inr (some (.inl 0)))]) (H := HL_R1) (Ts := [([.inl (-2147483648, 2147483647)], HL_R1)]) hΦ s_X11_falseOnes ⟨topA_ok _, topA_ok _, topA_ok _, topA_ok _, topA_ok _, rfl, trivial⟩ hh (by decide +kernel) (fun T hT st h1 q1 q2 => ?_)
  cases List.mem_singleton.mp hT
  obtain ⟨v, rfl, _⟩ := st1 q1
  refine And.intro (sv (k := 1) hj hL (by omega)) ?_
  refine And.intro (sv (k := 2) hj hL (by omega)) ?_
  refine And.intro (sv (k := 3) hj hL (by omega)) ?_
  refine And.intro (sv (k := 4) hj hL (by omega)) ?_
  refine And.intro (sv (k := 5) hj hL (by omega)) ?_
  refine callT (τ := τ) (tm := tmO [56, 57, 58, 62, 63, 65, 66, 67, 68, 69, 70, 71, 72, 73, 74, 75, 76, 77, 78, 79, 80, 81, 82, 83, 85, 86]) (A := [.inl (-2147483648, 2147483647), .inl (-2147483648, 2147483647), .inl (-2147483648, 2147483647), .inl (-2147483648, 2147483647), .inl (-2147483648, 2147483647), .inr (.inr (some (.inl 55)))]) (H := HL_R1) (Ts := [([.inl (-2147483648, 2147483647)], HL_R1)]) hΦ s_X12_falseOnes ⟨topA_ok _, topA_ok _, topA_ok _, topA_ok _, topA_ok _, rfl, trivial⟩ q2 (by decide +kernel) (fun T hT st h2 q3 q4 => ?_)
  cases List.mem_singleton.mp hT
  obtain ⟨w, rfl, _⟩ := st1 q3
  exact K τ h2 hΦ (Or.inl (Or.inr q4))

set_option maxRecDepth 100000 in
theorem g_law_printed_R1 {l : Launch} {Ls : Nat} {xs : Nat → Int32} {c18 : Blk} {τ : Nat → List (Option Nat)} {h : PH} {j : Nat} (hΦ : Φ τ) (hj : 6 * j + 6 ≤ Ls) (hL : Ls ≤ 3072) (hh : all2 (gC ρ0 τ) HL_R1 h) (K : ∀ (τ2 : Nat → List (Option Nat)) (h2 : PH), Φ τ2 → HH τ2 h2 → c18 [some (.inr (some (.inr []))), some (.inr (some (.inl 0))), some (.inr (some (.inl 55))), some (.inl (f_add (nI (6 * j)) 6))] [] h2) : b_L_law_838 l Ls xs c18 [some (.inr (some (.inr []))), some (.inr (some (.inl 0))), some (.inr (some (.inl 55))), some (.inl (nI (6 * j)))] [] h := by
  refine And.intro (sv (k := 1) hj hL (by omega)) ?_
  refine callT (τ := τ) (tm := tmO [9, 14, 19, 24, 27, 29, 32, 35, 54, 39, 40, 47]) (A := [.inl (-2147483648, 2147483647), .inr (.inr (some (.inl 0)))]) (H := HL_R1) (Ts := [([.inl (-2147483648, 2147483647)], HL_R1)]) hΦ s_X11_printed ⟨topA_ok _, rfl, trivial⟩ hh (by decide +kernel) (fun T hT st h1 q1 q2 => ?_)
  cases List.mem_singleton.mp hT
  obtain ⟨v, rfl, _⟩ := st1 q1
  refine And.intro (sv (k := 1) hj hL (by omega)) ?_
  refine callT (τ := τ) (tm := tmO [56, 57, 58, 60, 61, 62, 63, 65, 66, 67, 68, 69, 70, 71, 72, 73, 74, 75, 76, 77, 78, 79, 80, 81, 82, 83, 84, 85, 86]) (A := [.inl (-2147483648, 2147483647), .inr (.inr (some (.inl 55)))]) (H := HL_R1) (Ts := [([.inl (-2147483648, 2147483647)], HL_R1)]) hΦ s_X12_printed ⟨topA_ok _, rfl, trivial⟩ q2 (by decide +kernel) (fun T hT st h2 q3 q4 => ?_)
  cases List.mem_singleton.mp hT
  obtain ⟨w, rfl, _⟩ := st1 q3
  exact K τ h2 hΦ (Or.inl (Or.inr q4))

set_option maxRecDepth 100000 in
theorem g_law_ship_R1 {l : Launch} {Ls : Nat} {xs : Nat → Int32} {c18 : Blk} {τ : Nat → List (Option Nat)} {h : PH} {j : Nat} (hΦ : Φ τ) (hj : 6 * j + 6 ≤ Ls) (hL : Ls ≤ 3072) (hh : all2 (gC ρ0 τ) HL_R1 h) (K : ∀ (τ2 : Nat → List (Option Nat)) (h2 : PH), Φ τ2 → HH τ2 h2 → c18 [some (.inr (some (.inr []))), some (.inr (some (.inl 0))), some (.inr (some (.inl 55))), some (.inl (f_add (nI (6 * j)) 6))] [] h2) : b_L_law_861 l Ls xs c18 [some (.inr (some (.inr []))), some (.inr (some (.inl 0))), some (.inr (some (.inl 55))), some (.inl (nI (6 * j)))] [] h := by
  refine And.intro (sv (k := 1) hj hL (by omega)) ?_
  refine And.intro (sv (k := 2) hj hL (by omega)) ?_
  refine callT (τ := τ) (tm := tmO [3, 9, 14, 19, 24, 27, 32, 35, 54, 39, 40, 47]) (A := [.inl (-2147483648, 2147483647), .inl (-2147483648, 2147483647), .inr (.inr (some (.inl 0)))]) (H := HL_R1) (Ts := [([.inl (-2147483648, 2147483647)], HL_R1)]) hΦ s_X11_ship ⟨topA_ok _, topA_ok _, rfl, trivial⟩ hh (by decide +kernel) (fun T hT st h1 q1 q2 => ?_)
  cases List.mem_singleton.mp hT
  obtain ⟨v, rfl, _⟩ := st1 q1
  refine And.intro (sv (k := 1) hj hL (by omega)) ?_
  refine And.intro (sv (k := 2) hj hL (by omega)) ?_
  refine callT (τ := τ) (tm := tmO [56, 57, 58, 59, 60, 61, 62, 63, 65, 66, 67, 68, 69, 70, 71, 72, 73, 74, 75, 76, 77, 78, 79, 80, 81, 82, 83, 84, 85, 86]) (A := [.inl (-2147483648, 2147483647), .inl (-2147483648, 2147483647), .inr (.inr (some (.inl 55)))]) (H := HL_R1) (Ts := [([.inl (-2147483648, 2147483647)], HL_R1)]) hΦ s_X12_ship ⟨topA_ok _, topA_ok _, rfl, trivial⟩ q2 (by decide +kernel) (fun T hT st h2 q3 q4 => ?_)
  cases List.mem_singleton.mp hT
  obtain ⟨w, rfl, _⟩ := st1 q3
  exact K τ h2 hΦ (Or.inl (Or.inr q4))

set_option maxRecDepth 100000 in
theorem g_law_mule_R1 {l : Launch} {Ls : Nat} {xs : Nat → Int32} {c18 : Blk} {τ : Nat → List (Option Nat)} {h : PH} {j : Nat} (hΦ : Φ τ) (hj : 6 * j + 6 ≤ Ls) (hL : Ls ≤ 3072) (hh : all2 (gC ρ0 τ) HL_R1 h) (K : ∀ (τ2 : Nat → List (Option Nat)) (h2 : PH), Φ τ2 → HH τ2 h2 → c18 [some (.inr (some (.inr []))), some (.inr (some (.inl 0))), some (.inr (some (.inl 55))), some (.inl (f_add (nI (6 * j)) 6))] [] h2) : b_L_law_894 l Ls xs c18 [some (.inr (some (.inr []))), some (.inr (some (.inl 0))), some (.inr (some (.inl 55))), some (.inl (nI (6 * j)))] [] h := by
  refine And.intro (sv (k := 1) hj hL (by omega)) ?_
  refine And.intro (sv (k := 2) hj hL (by omega)) ?_
  refine And.intro (sv (k := 3) hj hL (by omega)) ?_
  refine callT (τ := τ) (tm := tmO [3, 9, 14, 19, 24, 27, 32, 35, 54, 39, 40, 47]) (A := [.inl (-2147483648, 2147483647), .inl (-2147483648, 2147483647), .inl (-2147483648, 2147483647), .inr (.inr (some (.inl 0)))]) (H := HL_R1) (Ts := [([.inl (-2147483648, 2147483647)], HL_R1)]) hΦ s_X11_mule ⟨topA_ok _, topA_ok _, topA_ok _, rfl, trivial⟩ hh (by decide +kernel) (fun T hT st h1 q1 q2 => ?_)
  cases List.mem_singleton.mp hT
  obtain ⟨v, rfl, _⟩ := st1 q1
  refine And.intro (sv (k := 1) hj hL (by omega)) ?_
  refine And.intro (sv (k := 2) hj hL (by omega)) ?_
  refine And.intro (sv (k := 3) hj hL (by omega)) ?_
  refine callT (τ := τ) (tm := tmO [56, 57, 58, 59, 60, 61, 62, 63, 65, 66, 67, 68, 69, 70, 71, 72, 73, 74, 75, 76, 77, 78, 79, 80, 81, 82, 83, 84, 85, 86]) (A := [.inl (-2147483648, 2147483647), .inl (-2147483648, 2147483647), .inl (-2147483648, 2147483647), .inr (.inr (some (.inl 55)))]) (H := HL_R1) (Ts := [([.inl (-2147483648, 2147483647)], HL_R1)]) hΦ s_X12_mule ⟨topA_ok _, topA_ok _, topA_ok _, rfl, trivial⟩ q2 (by decide +kernel) (fun T hT st h2 q3 q4 => ?_)
  cases List.mem_singleton.mp hT
  obtain ⟨w, rfl, _⟩ := st1 q3
  exact K τ h2 hΦ (Or.inl (Or.inr q4))

set_option maxRecDepth 100000 in
theorem g_law_marks_R1 {l : Launch} {Ls : Nat} {xs : Nat → Int32} {c18 : Blk} {τ : Nat → List (Option Nat)} {h : PH} {j : Nat} (hΦ : Φ τ) (hj : 6 * j + 6 ≤ Ls) (hL : Ls ≤ 3072) (hh : all2 (gC ρ0 τ) HL_R1 h) (K : ∀ (τ2 : Nat → List (Option Nat)) (h2 : PH), Φ τ2 → HH τ2 h2 → c18 [some (.inr (some (.inr []))), some (.inr (some (.inl 0))), some (.inr (some (.inl 55))), some (.inl (f_add (nI (6 * j)) 6))] [] h2) : b_L_law_937 l Ls xs c18 [some (.inr (some (.inr []))), some (.inr (some (.inl 0))), some (.inr (some (.inl 55))), some (.inl (nI (6 * j)))] [] h := by
  refine And.intro (sv (k := 1) hj hL (by omega)) ?_
  refine And.intro (sv (k := 2) hj hL (by omega)) ?_
  refine callT (τ := τ) (tm := tmO [3, 9, 14, 19, 24, 27, 32, 35, 54, 39, 40, 47]) (A := [.inl (-2147483648, 2147483647), .inl (-2147483648, 2147483647), .inr (.inr (some (.inl 0)))]) (H := HL_R1) (Ts := [([.inl (-2147483648, 2147483647)], HL_R1)]) hΦ s_X11_marks ⟨topA_ok _, topA_ok _, rfl, trivial⟩ hh (by decide +kernel) (fun T hT st h1 q1 q2 => ?_)
  cases List.mem_singleton.mp hT
  obtain ⟨v, rfl, _⟩ := st1 q1
  refine And.intro (sv (k := 1) hj hL (by omega)) ?_
  refine And.intro (sv (k := 2) hj hL (by omega)) ?_
  refine callT (τ := τ) (tm := tmO [56, 57, 58, 59, 60, 61, 62, 63, 65, 66, 67, 68, 69, 70, 71, 72, 73, 74, 75, 76, 77, 78, 79, 80, 81, 82, 83, 84, 86]) (A := [.inl (-2147483648, 2147483647), .inl (-2147483648, 2147483647), .inr (.inr (some (.inl 55)))]) (H := HL_R1) (Ts := [([.inl (-2147483648, 2147483647)], HL_R1)]) hΦ s_X12_marks ⟨topA_ok _, topA_ok _, rfl, trivial⟩ q2 (by decide +kernel) (fun T hT st h2 q3 q4 => ?_)
  cases List.mem_singleton.mp hT
  obtain ⟨w, rfl, _⟩ := st1 q3
  exact K τ h2 hΦ (Or.inl (Or.inr q4))

set_option maxRecDepth 100000 in
theorem g_law_franked_R1 {l : Launch} {Ls : Nat} {xs : Nat → Int32} {c18 : Blk} {τ : Nat → List (Option Nat)} {h : PH} {j : Nat} (hΦ : Φ τ) (hj : 6 * j + 6 ≤ Ls) (hL : Ls ≤ 3072) (hh : all2 (gC ρ0 τ) HL_R1 h) (K : ∀ (τ2 : Nat → List (Option Nat)) (h2 : PH), Φ τ2 → HH τ2 h2 → c18 [some (.inr (some (.inr []))), some (.inr (some (.inl 0))), some (.inr (some (.inl 55))), some (.inl (f_add (nI (6 * j)) 6))] [] h2) : b_L_law_970 l Ls xs c18 [some (.inr (some (.inr []))), some (.inr (some (.inl 0))), some (.inr (some (.inl 55))), some (.inl (nI (6 * j)))] [] h := by
  refine And.intro (sv (k := 1) hj hL (by omega)) ?_
  refine And.intro (sv (k := 2) hj hL (by omega)) ?_
  refine callT (τ := τ) (tm := tmO [3, 9, 14, 19, 24, 27, 32, 35, 54, 39, 40, 47]) (A := [.inl (-2147483648, 2147483647), .inl (-2147483648, 2147483647), .inr (.inr (some (.inl 0)))]) (H := HL_R1) (Ts := [([.inl (-2147483648, 2147483647)], HL_R1)]) hΦ s_X11_franked ⟨topA_ok _, topA_ok _, rfl, trivial⟩ hh (by decide +kernel) (fun T hT st h1 q1 q2 => ?_)
  cases List.mem_singleton.mp hT
  obtain ⟨v, rfl, _⟩ := st1 q1
  refine And.intro (sv (k := 1) hj hL (by omega)) ?_
  refine And.intro (sv (k := 2) hj hL (by omega)) ?_
  refine callT (τ := τ) (tm := tmO [56, 57, 58, 59, 60, 61, 62, 63, 65, 66, 67, 68, 69, 70, 71, 72, 73, 74, 75, 76, 77, 78, 79, 80, 81, 82, 83, 84, 86]) (A := [.inl (-2147483648, 2147483647), .inl (-2147483648, 2147483647), .inr (.inr (some (.inl 55)))]) (H := HL_R1) (Ts := [([.inl (-2147483648, 2147483647)], HL_R1)]) hΦ s_X12_franked ⟨topA_ok _, topA_ok _, rfl, trivial⟩ q2 (by decide +kernel) (fun T hT st h2 q3 q4 => ?_)
  cases List.mem_singleton.mp hT
  obtain ⟨w, rfl, _⟩ := st1 q3
  exact K τ h2 hΦ (Or.inl (Or.inr q4))

set_option maxRecDepth 100000 in
theorem g_law_exchange_R1 {l : Launch} {Ls : Nat} {xs : Nat → Int32} {c18 : Blk} {τ : Nat → List (Option Nat)} {h : PH} {j : Nat} (hΦ : Φ τ) (hj : 6 * j + 6 ≤ Ls) (hL : Ls ≤ 3072) (hh : all2 (gC ρ0 τ) HL_R1 h) (K : ∀ (τ2 : Nat → List (Option Nat)) (h2 : PH), Φ τ2 → HH τ2 h2 → c18 [some (.inr (some (.inr []))), some (.inr (some (.inl 0))), some (.inr (some (.inl 55))), some (.inl (f_add (nI (6 * j)) 6))] [] h2) : b_L_law_1003 l Ls xs c18 [some (.inr (some (.inr []))), some (.inr (some (.inl 0))), some (.inr (some (.inl 55))), some (.inl (nI (6 * j)))] [] h := by
  refine And.intro (sv (k := 1) hj hL (by omega)) ?_
  refine And.intro (sv (k := 2) hj hL (by omega)) ?_
  refine callT (τ := τ) (tm := tmO [3, 9, 14, 19, 24, 27, 32, 35, 54, 39, 40, 47]) (A := [.inl (-2147483648, 2147483647), .inl (-2147483648, 2147483647), .inr (.inr (some (.inl 0)))]) (H := HL_R1) (Ts := [([.inl (-2147483648, 2147483647)], HL_R1)]) hΦ s_X11_exchange ⟨topA_ok _, topA_ok _, rfl, trivial⟩ hh (by decide +kernel) (fun T hT st h1 q1 q2 => ?_)
  cases List.mem_singleton.mp hT
  obtain ⟨v, rfl, _⟩ := st1 q1
  refine And.intro (sv (k := 1) hj hL (by omega)) ?_
  refine And.intro (sv (k := 2) hj hL (by omega)) ?_
  refine callT (τ := τ) (tm := tmO [56, 57, 58, 59, 60, 61, 62, 63, 65, 66, 67, 68, 69, 70, 71, 72, 73, 74, 75, 76, 77, 78, 79, 80, 81, 82, 83, 84, 85]) (A := [.inl (-2147483648, 2147483647), .inl (-2147483648, 2147483647), .inr (.inr (some (.inl 55)))]) (H := HL_R1) (Ts := [([.inl (-2147483648, 2147483647)], HL_R1)]) hΦ s_X12_exchange ⟨topA_ok _, topA_ok _, rfl, trivial⟩ q2 (by decide +kernel) (fun T hT st h2 q3 q4 => ?_)
  cases List.mem_singleton.mp hT
  obtain ⟨w, rfl, _⟩ := st1 q3
  exact K τ h2 hΦ (Or.inl (Or.inr q4))

set_option maxRecDepth 100000 in
theorem g_law_seed_R1 {l : Launch} {Ls : Nat} {xs : Nat → Int32} {c18 : Blk} {τ : Nat → List (Option Nat)} {h : PH} {j : Nat} (hΦ : Φ τ) (hj : 6 * j + 6 ≤ Ls) (hL : Ls ≤ 3072) (hh : all2 (gC ρ0 τ) HL_R1 h) (K : ∀ (τ2 : Nat → List (Option Nat)) (h2 : PH), Φ τ2 → HH τ2 h2 → c18 [some (.inr (some (.inr []))), some (.inr (some (.inl 0))), some (.inr (some (.inl 55))), some (.inl (f_add (nI (6 * j)) 6))] [] h2) : b_L_law_1036 l Ls xs c18 [some (.inr (some (.inr []))), some (.inr (some (.inl 0))), some (.inr (some (.inl 55))), some (.inl (nI (6 * j)))] [] h := by
  refine And.intro (sv (k := 1) hj hL (by omega)) ?_
  refine callT (τ := τ) (tm := tmO [1, 3, 14, 19, 24, 27, 29, 32, 35, 54, 39, 40, 47]) (A := [.inl (-2147483648, 2147483647), .inr (.inr (some (.inl 0)))]) (H := HL_R1) (Ts := [([.inl (-2147483648, 2147483647)], HL_R1)]) hΦ s_X11_seed ⟨topA_ok _, rfl, trivial⟩ hh (by decide +kernel) (fun T hT st h1 q1 q2 => ?_)
  cases List.mem_singleton.mp hT
  obtain ⟨v, rfl, _⟩ := st1 q1
  refine And.intro (sv (k := 1) hj hL (by omega)) ?_
  refine callT (τ := τ) (tm := tmO [57, 58, 59, 60, 61, 62, 63, 64, 65, 66, 67, 68, 69, 70, 71, 72, 73, 74, 75, 76, 77, 78, 79, 80, 81, 82, 83, 84, 85, 86]) (A := [.inl (-2147483648, 2147483647), .inr (.inr (some (.inl 55)))]) (H := HL_R1) (Ts := [([.inl (-2147483648, 2147483647)], HL_R1)]) hΦ s_X12_seed ⟨topA_ok _, rfl, trivial⟩ q2 (by decide +kernel) (fun T hT st h2 q3 q4 => ?_)
  cases List.mem_singleton.mp hT
  obtain ⟨w, rfl, _⟩ := st1 q3
  exact K τ h2 hΦ (Or.inl (Or.inr q4))

set_option maxRecDepth 100000 in
theorem g_law_keep_R1 {l : Launch} {Ls : Nat} {xs : Nat → Int32} {c18 : Blk} {τ : Nat → List (Option Nat)} {h : PH} {j : Nat} (hΦ : Φ τ) (hj : 6 * j + 6 ≤ Ls) (hL : Ls ≤ 3072) (hh : all2 (gC ρ0 τ) HL_R1 h) (K : ∀ (τ2 : Nat → List (Option Nat)) (h2 : PH), Φ τ2 → HH τ2 h2 → c18 [some (.inr (some (.inr []))), some (.inr (some (.inl 0))), some (.inr (some (.inl 55))), some (.inl (f_add (nI (6 * j)) 6))] [] h2) : b_L_law_1059 l Ls xs c18 [some (.inr (some (.inr []))), some (.inr (some (.inl 0))), some (.inr (some (.inl 55))), some (.inl (nI (6 * j)))] [] h := by
  refine callT (τ := τ) (tm := tmO [1, 3, 19, 24, 27, 29, 32, 35, 54, 39, 40, 47]) (A := [.inr (.inr (some (.inl 0)))]) (H := HL_R1) (Ts := [([.inl (-2147483648, 2147483647)], HL_R1_k1)]) hΦ s_X11_keep ⟨rfl, trivial⟩ hh (by decide +kernel) (fun T hT st h1 q1 q2 => ?_)
  cases List.mem_singleton.mp hT
  obtain ⟨v, rfl, _⟩ := st1 q1
  refine callT (τ := τ) (tm := tmO [57, 59, 60, 61, 62, 63, 64, 65, 66, 67, 68, 69, 70, 71, 72, 73, 74, 75, 76, 77, 78, 79, 80, 81, 82, 83, 84, 85, 86]) (A := [.inr (.inr (some (.inl 55)))]) (H := HL_R1_k1) (Ts := [([.inl (-2147483648, 2147483647)], HL_R1_k2)]) hΦ s_X12_keep ⟨rfl, trivial⟩ q2 (by decide +kernel) (fun T hT st h2 p1 p2 => ?_)
  cases List.mem_singleton.mp hT
  obtain ⟨w, rfl, _⟩ := st1 p1
  exact K (upT τ 201 1) h2 hΦ (Or.inl (Or.inr (mvH (k := 201) (c := 1) rfl (fun t ht => upT_ne ht) (by rw [upT_at]; rfl) (by decide) (by decide +kernel) p2)))

set_option maxRecDepth 100000 in
theorem g_law_undo_R1 {l : Launch} {Ls : Nat} {xs : Nat → Int32} {c18 : Blk} {τ : Nat → List (Option Nat)} {h : PH} {j : Nat} (hΦ : Φ τ) (hj : 6 * j + 6 ≤ Ls) (hL : Ls ≤ 3072) (hh : all2 (gC ρ0 τ) HL_R1 h) (K : ∀ (τ2 : Nat → List (Option Nat)) (h2 : PH), Φ τ2 → HH τ2 h2 → c18 [some (.inr (some (.inr []))), some (.inr (some (.inl 0))), some (.inr (some (.inl 55))), some (.inl (f_add (nI (6 * j)) 6))] [] h2) : b_L_law_1072 l Ls xs c18 [some (.inr (some (.inr []))), some (.inr (some (.inl 0))), some (.inr (some (.inl 55))), some (.inl (nI (6 * j)))] [] h := by
  have hr := tokR (i := 0) (j := 14) (t := 201) hh rfl rfl rfl
  have hr : 0 ≤ (decA (τ 201) 0).toInt ∧ (decA (τ 201) 0).toInt ≤ 1 := hr
  rcases (show (decA (τ 201) 0).toInt = 0 ∨ (decA (τ 201) 0).toInt = 1 by omega) with e | e
  · have hh := fxH (k := 201) (c := 0) (E := HL_R1_u0) rfl e (by decide +kernel) hh
    refine callT (τ := τ) (tm := tmO [1, 19, 24, 27, 29, 32, 35, 54, 39, 40, 47]) (A := [.inr (.inr (some (.inl 0)))]) (H := HL_R1_u0) (Ts := [([.inl (0, 0)], HL_R1_u0)]) hΦ s_X11_undo_0 ⟨rfl, trivial⟩ hh (by decide +kernel) (fun T hT st h1 q1 q2 => ?_)
    cases List.mem_singleton.mp hT
    obtain ⟨v, rfl, hv⟩ := st1 q1
    refine callT (τ := τ) (tm := tmO [57, 59, 60, 61, 62, 63, 64, 65, 66, 67, 68, 69, 70, 71, 72, 73, 74, 75, 76, 77, 78, 79, 80, 81, 82, 83, 84, 85, 86]) (A := [.inr (.inr (some (.inl 55))), .inl (0, 0)]) (H := HL_R1_u0) (Ts := [([.inl (0, 0), .inl (0, 0)], HL_R1_u0)]) hΦ s_X12_undo_0 ⟨rfl, hv, trivial⟩ q2 (by decide +kernel) (fun T hT st h2 p1 p2 => ?_)
    cases List.mem_singleton.mp hT
    obtain ⟨w, v2, rfl, hw, hv2⟩ := st2 p1
    obtain ⟨w, rfl, w1, w2⟩ := hw
    obtain ⟨v2, rfl, u1, u2⟩ := hv2
    refine And.intro (fun _ => ?_) (fun z => absurd (i32eq.mpr (by omega)) z)
    exact K τ h2 hΦ (Or.inl (Or.inr (mvH (k := 201) (c := 0) rfl (fun _ _ => rfl) e (by decide) (by decide +kernel) p2)))
  · have hh := fxH (k := 201) (c := 1) (E := HL_R1_k2) rfl e (by decide +kernel) hh
    refine callT (τ := τ) (tm := tmO [1, 19, 24, 27, 29, 32, 35, 54, 39, 40, 47]) (A := [.inr (.inr (some (.inl 0)))]) (H := HL_R1_k2) (Ts := [([.inl (1, 1)], HL_R1_k2)]) hΦ s_X11_undo_1 ⟨rfl, trivial⟩ hh (by decide +kernel) (fun T hT st h1 q1 q2 => ?_)
    cases List.mem_singleton.mp hT
    obtain ⟨v, rfl, hv⟩ := st1 q1
    refine callT (τ := τ) (tm := tmO [57, 59, 60, 61, 62, 63, 64, 65, 66, 67, 68, 69, 70, 71, 72, 73, 74, 75, 76, 77, 78, 79, 80, 81, 82, 83, 84, 85, 86]) (A := [.inr (.inr (some (.inl 55))), .inl (1, 1)]) (H := HL_R1_k2) (Ts := [([.inl (1, 1), .inl (1, 1)], HL_R1_k2)]) hΦ s_X12_undo_1 ⟨rfl, hv, trivial⟩ q2 (by decide +kernel) (fun T hT st h2 p1 p2 => ?_)
    cases List.mem_singleton.mp hT
    obtain ⟨w, v2, rfl, hw, hv2⟩ := st2 p1
    obtain ⟨w, rfl, w1, w2⟩ := hw
    obtain ⟨v2, rfl, u1, u2⟩ := hv2
    refine And.intro (fun _ => ?_) (fun z => absurd (i32eq.mpr (by omega)) z)
    exact K τ h2 hΦ (Or.inl (Or.inr (mvH (k := 201) (c := 1) rfl (fun _ _ => rfl) e (by decide) (by decide +kernel) p2)))

set_option maxRecDepth 100000 in
theorem g_law_check_R1 {l : Launch} {Ls : Nat} {xs : Nat → Int32} {c18 : Blk} {τ : Nat → List (Option Nat)} {h : PH} {j : Nat} (hΦ : Φ τ) (hj : 6 * j + 6 ≤ Ls) (hL : Ls ≤ 3072) (hh : all2 (gC ρ0 τ) HL_R1 h) (K : ∀ (τ2 : Nat → List (Option Nat)) (h2 : PH), Φ τ2 → HH τ2 h2 → c18 [some (.inr (some (.inr []))), some (.inr (some (.inl 0))), some (.inr (some (.inl 55))), some (.inl (f_add (nI (6 * j)) 6))] [] h2) : b_L_law_1085 l Ls xs c18 [some (.inr (some (.inr []))), some (.inr (some (.inl 0))), some (.inr (some (.inl 55))), some (.inl (nI (6 * j)))] [] h := by
  refine And.intro (sv (k := 1) hj hL (by omega)) ?_
  refine callT (τ := τ) (tm := tmO [3, 14, 19, 24, 27, 29, 32, 35, 54, 39, 40, 47]) (A := [.inl (-2147483648, 2147483647), .inr (.inr (some (.inl 0)))]) (H := HL_R1) (Ts := [([.inl (-2147483648, 2147483647)], HL_R1)]) hΦ s_X11_check ⟨topA_ok _, rfl, trivial⟩ hh (by decide +kernel) (fun T hT st h1 q1 q2 => ?_)
  cases List.mem_singleton.mp hT
  obtain ⟨v, rfl, _⟩ := st1 q1
  refine And.intro (sv (k := 1) hj hL (by omega)) ?_
  refine callT (τ := τ) (tm := tmO [57, 58, 59, 60, 61, 62, 63, 65, 66, 67, 68, 69, 70, 71, 72, 73, 74, 75, 76, 77, 78, 79, 80, 81, 82, 83, 84, 85, 86]) (A := [.inl (-2147483648, 2147483647), .inr (.inr (some (.inl 55)))]) (H := HL_R1) (Ts := [([.inl (-2147483648, 2147483647)], HL_R1)]) hΦ s_X12_check ⟨topA_ok _, rfl, trivial⟩ q2 (by decide +kernel) (fun T hT st h2 q3 q4 => ?_)
  cases List.mem_singleton.mp hT
  obtain ⟨w, rfl, _⟩ := st1 q3
  exact K τ h2 hΦ (Or.inl (Or.inr q4))

set_option maxRecDepth 100000 in
theorem g_law_count_R1 {l : Launch} {Ls : Nat} {xs : Nat → Int32} {c18 : Blk} {τ : Nat → List (Option Nat)} {h : PH} {j : Nat} (hΦ : Φ τ) (hj : 6 * j + 6 ≤ Ls) (hL : Ls ≤ 3072) (hh : all2 (gC ρ0 τ) HL_R1 h) (K : ∀ (τ2 : Nat → List (Option Nat)) (h2 : PH), Φ τ2 → HH τ2 h2 → c18 [some (.inr (some (.inr []))), some (.inr (some (.inl 0))), some (.inr (some (.inl 55))), some (.inl (f_add (nI (6 * j)) 6))] [] h2) : b_L_law_1108 l Ls xs c18 [some (.inr (some (.inr []))), some (.inr (some (.inl 0))), some (.inr (some (.inl 55))), some (.inl (nI (6 * j)))] [] h := by
  refine And.intro (sv (k := 1) hj hL (by omega)) ?_
  refine callT (τ := τ) (tm := tmO [14, 19, 24, 27, 29, 32, 35, 54, 39, 47]) (A := [.inl (-2147483648, 2147483647), .inr (.inr (some (.inl 0)))]) (H := HL_R1) (Ts := [([.inl (-2147483648, 2147483647)], HL_R1)]) hΦ s_X11_count ⟨topA_ok _, rfl, trivial⟩ hh (by decide +kernel) (fun T hT st h1 q1 q2 => ?_)
  cases List.mem_singleton.mp hT
  obtain ⟨v, rfl, _⟩ := st1 q1
  refine And.intro (sv (k := 1) hj hL (by omega)) ?_
  refine callT (τ := τ) (tm := tmO [57, 58, 60, 61, 63, 64, 65, 66, 67, 68, 69, 70, 71, 72, 73, 74, 75, 76, 77, 78, 79, 80, 81, 82, 83, 84, 85, 86]) (A := [.inl (-2147483648, 2147483647), .inr (.inr (some (.inl 55)))]) (H := HL_R1) (Ts := [([.inl (-2147483648, 2147483647)], HL_R1)]) hΦ s_X12_count ⟨topA_ok _, rfl, trivial⟩ q2 (by decide +kernel) (fun T hT st h2 q3 q4 => ?_)
  cases List.mem_singleton.mp hT
  obtain ⟨w, rfl, _⟩ := st1 q3
  exact K τ h2 hΦ (Or.inl (Or.inr q4))

set_option maxRecDepth 100000 in
theorem g_law_mint_S2 {l : Launch} {Ls : Nat} {xs : Nat → Int32} {c18 : Blk} {τ : Nat → List (Option Nat)} {h : PH} {j : Nat} (hΦ : Φ τ) (hj : 6 * j + 6 ≤ Ls) (hL : Ls ≤ 3072) (hh : all2 (gC ρ0 τ) HL_S2 h) (K : ∀ (τ2 : Nat → List (Option Nat)) (h2 : PH), Φ τ2 → HH τ2 h2 → c18 [some (.inr (some (.inr []))), some (.inr (some (.inl 0))), some (.inr (some (.inl 55))), some (.inl (f_add (nI (6 * j)) 6))] [] h2) : b2_L_law_164 l Ls xs c18 [some (.inr (some (.inr []))), some (.inr (some (.inl 0))), some (.inr (some (.inl 55))), some (.inl (nI (6 * j)))] [] h := by
  refine And.intro (sv (k := 1) hj hL (by omega)) ?_
  refine And.intro (sv (k := 2) hj hL (by omega)) ?_
  refine And.intro (sv (k := 3) hj hL (by omega)) ?_
  refine callT (τ := τ) (tm := tmO [1, 9, 14, 19, 24, 27, 29, 32, 35, 54, 39, 47, 40]) (A := [.inl (-2147483648, 2147483647), .inl (-2147483648, 2147483647), .inl (-2147483648, 2147483647), .inr (.inr (some (.inl 0)))]) (H := HL_S2) (Ts := [([.inl (-2147483648, 2147483647)], HL_S2)]) hΦ s_X11_mint ⟨topA_ok _, topA_ok _, topA_ok _, rfl, trivial⟩ hh (by decide +kernel) (fun T hT st h1 q1 q2 => ?_)
  cases List.mem_singleton.mp hT
  obtain ⟨v, rfl, _⟩ := st1 q1
  refine And.intro (sv (k := 1) hj hL (by omega)) ?_
  refine And.intro (sv (k := 2) hj hL (by omega)) ?_
  refine And.intro (sv (k := 3) hj hL (by omega)) ?_
  refine callT (τ := τ) (tm := tmO [56, 57, 58, 60, 61, 62, 63, 64, 65, 66, 67, 68, 69, 70, 71, 72, 73, 74, 75, 76, 77, 78, 79, 80, 81, 82, 83, 84, 85, 86]) (A := [.inl (-2147483648, 2147483647), .inl (-2147483648, 2147483647), .inl (-2147483648, 2147483647), .inr (.inr (some (.inl 55)))]) (H := HL_S2) (Ts := [([.inl (-2147483648, 2147483647)], HL_S2)]) hΦ s_X12_mint ⟨topA_ok _, topA_ok _, topA_ok _, rfl, trivial⟩ q2 (by decide +kernel) (fun T hT st h2 q3 q4 => ?_)
  cases List.mem_singleton.mp hT
  obtain ⟨w, rfl, _⟩ := st1 q3
  exact K τ h2 hΦ (Or.inr (Or.inl q4))

set_option maxRecDepth 100000 in
theorem g_law_feed_S2 {l : Launch} {Ls : Nat} {xs : Nat → Int32} {c18 : Blk} {τ : Nat → List (Option Nat)} {h : PH} {j : Nat} (hΦ : Φ τ) (hj : 6 * j + 6 ≤ Ls) (hL : Ls ≤ 3072) (hh : all2 (gC ρ0 τ) HL_S2 h) (K : ∀ (τ2 : Nat → List (Option Nat)) (h2 : PH), Φ τ2 → HH τ2 h2 → c18 [some (.inr (some (.inr []))), some (.inr (some (.inl 0))), some (.inr (some (.inl 55))), some (.inl (f_add (nI (6 * j)) 6))] [] h2) : b2_L_law_207 l Ls xs c18 [some (.inr (some (.inr []))), some (.inr (some (.inl 0))), some (.inr (some (.inl 55))), some (.inl (nI (6 * j)))] [] h := by
  refine And.intro (sv (k := 1) hj hL (by omega)) ?_
  refine And.intro (sv (k := 2) hj hL (by omega)) ?_
  refine And.intro (sv (k := 3) hj hL (by omega)) ?_
  refine And.intro (sv (k := 4) hj hL (by omega)) ?_
  refine And.intro (sv (k := 5) hj hL (by omega)) ?_
  refine callT (τ := τ) (tm := tmO [3, 9, 14, 19, 24, 27, 29, 32, 35, 54, 39, 47, 40]) (A := [.inl (-2147483648, 2147483647), .inl (-2147483648, 2147483647), .inl (-2147483648, 2147483647), .inl (-2147483648, 2147483647), .inl (-2147483648, 2147483647), .inr (.inr (some (.inl 0)))]) (H := HL_S2) (Ts := [([.inl (-2147483648, 2147483647)], HL_S2)]) hΦ s_X11_feed ⟨topA_ok _, topA_ok _, topA_ok _, topA_ok _, topA_ok _, rfl, trivial⟩ hh (by decide +kernel) (fun T hT st h1 q1 q2 => ?_)
  cases List.mem_singleton.mp hT
  obtain ⟨v, rfl, _⟩ := st1 q1
  refine And.intro (sv (k := 1) hj hL (by omega)) ?_
  refine And.intro (sv (k := 2) hj hL (by omega)) ?_
  refine And.intro (sv (k := 3) hj hL (by omega)) ?_
  refine And.intro (sv (k := 4) hj hL (by omega)) ?_
  refine And.intro (sv (k := 5) hj hL (by omega)) ?_
  refine callT (τ := τ) (tm := tmO [56, 57, 58, 59, 60, 61, 62, 63, 65, 66, 67, 68, 69, 70, 71, 72, 73, 74, 75, 76, 77, 78, 79, 80, 81, 82, 83, 84, 85, 86]) (A := [.inl (-2147483648, 2147483647), .inl (-2147483648, 2147483647), .inl (-2147483648, 2147483647), .inl (-2147483648, 2147483647), .inl (-2147483648, 2147483647), .inr (.inr (some (.inl 55)))]) (H := HL_S2) (Ts := [([.inl (-2147483648, 2147483647)], HL_S2)]) hΦ s_X12_feed ⟨topA_ok _, topA_ok _, topA_ok _, topA_ok _, topA_ok _, rfl, trivial⟩ q2 (by decide +kernel) (fun T hT st h2 q3 q4 => ?_)
  cases List.mem_singleton.mp hT
  obtain ⟨w, rfl, _⟩ := st1 q3
  exact K τ h2 hΦ (Or.inr (Or.inl q4))

set_option maxRecDepth 100000 in
theorem g_law_law_S2 {l : Launch} {Ls : Nat} {xs : Nat → Int32} {c18 : Blk} {τ : Nat → List (Option Nat)} {h : PH} {j : Nat} (hΦ : Φ τ) (hj : 6 * j + 6 ≤ Ls) (hL : Ls ≤ 3072) (hh : all2 (gC ρ0 τ) HL_S2 h) (K : ∀ (τ2 : Nat → List (Option Nat)) (h2 : PH), Φ τ2 → HH τ2 h2 → c18 [some (.inr (some (.inr []))), some (.inr (some (.inl 0))), some (.inr (some (.inl 55))), some (.inl (f_add (nI (6 * j)) 6))] [] h2) : b2_L_law_270 l Ls xs c18 [some (.inr (some (.inr []))), some (.inr (some (.inl 0))), some (.inr (some (.inl 55))), some (.inl (nI (6 * j)))] [] h := by
  refine And.intro (sv (k := 1) hj hL (by omega)) ?_
  refine callT (τ := τ) (tm := tmO [3, 9, 14, 19, 24, 27, 29, 32, 35, 39, 47]) (A := [.inl (-2147483648, 2147483647), .inr (.inr (some (.inl 0)))]) (H := HL_S2) (Ts := [([.inl (-2147483648, 2147483647)], HL_S1), ([.inl (-2147483648, 2147483647)], HL_R1), ([.inl (-2147483648, 2147483647)], HL_S2), ([.inl (-2147483648, 2147483647)], HL_R2)]) hΦ s_X11_law_S ⟨topA_ok _, rfl, trivial⟩ hh (by decide +kernel) (fun T hT st h1 q1 q2 => ?_)
  rcases List.mem_cons.mp hT with rfl | hT
  · obtain ⟨v, rfl, _⟩ := st1 q1
    refine And.intro (sv (k := 1) hj hL (by omega)) ?_
    refine callL (τ := τ) (tm := tmO [56, 57, 58, 59, 60, 61, 62, 63, 76, 77, 78, 79, 80, 81, 82, 83, 84, 85, 86]) (A := [.inl (-2147483648, 2147483647), .inr (.inr (some (.inl 55)))]) (as := [.inr (.inr (some (.inl 55))), .inl (-2147483648, 2147483647)]) (H := HL_S1) (H2 := HL_S1) hΦ s_X12_law ⟨topA_ok _, rfl, trivial⟩ q2 rfl (by decide +kernel) (by decide +kernel) (by decide +kernel) (by decide +kernel) (fun τ2 p2 p3 y h2 q3 => ?_)
    exact K τ2 h2 p2 (Or.inl (Or.inl q3))
  rcases List.mem_cons.mp hT with rfl | hT
  · obtain ⟨v, rfl, _⟩ := st1 q1
    refine And.intro (sv (k := 1) hj hL (by omega)) ?_
    refine callL (τ := τ) (tm := tmO [56, 57, 58, 59, 60, 61, 62, 63, 76, 77, 78, 79, 80, 81, 82, 83, 84, 85, 86]) (A := [.inl (-2147483648, 2147483647), .inr (.inr (some (.inl 55)))]) (as := [.inr (.inr (some (.inl 55))), .inl (-2147483648, 2147483647)]) (H := HL_R1) (H2 := HL_R1) hΦ s_X12_law ⟨topA_ok _, rfl, trivial⟩ q2 rfl (by decide +kernel) (by decide +kernel) (by decide +kernel) (by decide +kernel) (fun τ2 p2 p3 y h2 q3 => ?_)
    exact K τ2 h2 p2 (Or.inl (Or.inr q3))
  rcases List.mem_cons.mp hT with rfl | hT
  · obtain ⟨v, rfl, _⟩ := st1 q1
    refine And.intro (sv (k := 1) hj hL (by omega)) ?_
    refine callL (τ := τ) (tm := tmO [56, 57, 58, 59, 60, 61, 62, 63, 76, 77, 78, 79, 80, 81, 82, 83, 84, 85, 86]) (A := [.inl (-2147483648, 2147483647), .inr (.inr (some (.inl 55)))]) (as := [.inr (.inr (some (.inl 55))), .inl (-2147483648, 2147483647)]) (H := HL_S2) (H2 := HL_S2) hΦ s_X12_law ⟨topA_ok _, rfl, trivial⟩ q2 rfl (by decide +kernel) (by decide +kernel) (by decide +kernel) (by decide +kernel) (fun τ2 p2 p3 y h2 q3 => ?_)
    exact K τ2 h2 p2 (Or.inr (Or.inl q3))
  cases List.mem_singleton.mp hT
  obtain ⟨v, rfl, _⟩ := st1 q1
  refine And.intro (sv (k := 1) hj hL (by omega)) ?_
  refine callL (τ := τ) (tm := tmO [56, 57, 58, 59, 60, 61, 62, 63, 76, 77, 78, 79, 80, 81, 82, 83, 84, 85, 86]) (A := [.inl (-2147483648, 2147483647), .inr (.inr (some (.inl 55)))]) (as := [.inr (.inr (some (.inl 55))), .inl (-2147483648, 2147483647)]) (H := HL_R2) (H2 := HL_R2) hΦ s_X12_law ⟨topA_ok _, rfl, trivial⟩ q2 rfl (by decide +kernel) (by decide +kernel) (by decide +kernel) (by decide +kernel) (fun τ2 p2 p3 y h2 q3 => ?_)
  exact K τ2 h2 p2 (Or.inr (Or.inr q3))

set_option maxRecDepth 100000 in
theorem g_law_sheet_S2 {l : Launch} {Ls : Nat} {xs : Nat → Int32} {c18 : Blk} {τ : Nat → List (Option Nat)} {h : PH} {j : Nat} (hΦ : Φ τ) (hj : 6 * j + 6 ≤ Ls) (hL : Ls ≤ 3072) (hh : all2 (gC ρ0 τ) HL_S2 h) (K : ∀ (τ2 : Nat → List (Option Nat)) (h2 : PH), Φ τ2 → HH τ2 h2 → c18 [some (.inr (some (.inr []))), some (.inr (some (.inl 0))), some (.inr (some (.inl 55))), some (.inl (f_add (nI (6 * j)) 6))] [] h2) : b2_L_law_293 l Ls xs c18 [some (.inr (some (.inr []))), some (.inr (some (.inl 0))), some (.inr (some (.inl 55))), some (.inl (nI (6 * j)))] [] h := by
  refine And.intro (sv (k := 1) hj hL (by omega)) ?_
  refine callT (τ := τ) (tm := tmO [14, 19, 24, 27, 29, 35, 54, 39, 47, 40]) (A := [.inl (-2147483648, 2147483647), .inr (.inr (some (.inl 0)))]) (H := HL_S2) (Ts := [([.inl (-2147483648, 2147483647)], HL_S2)]) hΦ s_X11_sheet ⟨topA_ok _, rfl, trivial⟩ hh (by decide +kernel) (fun T hT st h1 q1 q2 => ?_)
  cases List.mem_singleton.mp hT
  obtain ⟨v, rfl, _⟩ := st1 q1
  refine And.intro (sv (k := 1) hj hL (by omega)) ?_
  refine callT (τ := τ) (tm := tmO [57, 58, 59, 62, 63, 65, 66, 67, 68, 69, 70, 71, 72, 73, 74, 75, 76, 77, 82, 83, 84, 85, 86]) (A := [.inl (-2147483648, 2147483647), .inr (.inr (some (.inl 55)))]) (H := HL_S2) (Ts := [([.inl (-2147483648, 2147483647)], HL_S2)]) hΦ s_X12_sheet ⟨topA_ok _, rfl, trivial⟩ q2 (by decide +kernel) (fun T hT st h2 q3 q4 => ?_)
  cases List.mem_singleton.mp hT
  obtain ⟨w, rfl, _⟩ := st1 q3
  exact K τ h2 hΦ (Or.inr (Or.inl q4))

set_option maxRecDepth 100000 in
theorem g_law_post_S2 {l : Launch} {Ls : Nat} {xs : Nat → Int32} {c18 : Blk} {τ : Nat → List (Option Nat)} {h : PH} {j : Nat} (hΦ : Φ τ) (hj : 6 * j + 6 ≤ Ls) (hL : Ls ≤ 3072) (hh : all2 (gC ρ0 τ) HL_S2 h) (K : ∀ (τ2 : Nat → List (Option Nat)) (h2 : PH), Φ τ2 → HH τ2 h2 → c18 [some (.inr (some (.inr []))), some (.inr (some (.inl 0))), some (.inr (some (.inl 55))), some (.inl (f_add (nI (6 * j)) 6))] [] h2) : b2_L_law_316 l Ls xs c18 [some (.inr (some (.inr []))), some (.inr (some (.inl 0))), some (.inr (some (.inl 55))), some (.inl (nI (6 * j)))] [] h := by
  refine And.intro (sv (k := 1) hj hL (by omega)) ?_
  refine callT (τ := τ) (tm := tmO [14, 19, 24, 27, 29, 32, 54, 39, 47, 40]) (A := [.inl (-2147483648, 2147483647), .inr (.inr (some (.inl 0)))]) (H := HL_S2) (Ts := [([.inl (-2147483648, 2147483647)], HL_S2)]) hΦ s_X11_post ⟨topA_ok _, rfl, trivial⟩ hh (by decide +kernel) (fun T hT st h1 q1 q2 => ?_)
  cases List.mem_singleton.mp hT
  obtain ⟨v, rfl, _⟩ := st1 q1
  refine And.intro (sv (k := 1) hj hL (by omega)) ?_
  refine callT (τ := τ) (tm := tmO [58, 59, 60, 61, 65, 66, 67, 68, 69, 70, 71, 72, 73, 74, 75, 76, 77, 78, 79, 80, 81, 82, 83, 84, 85, 86]) (A := [.inl (-2147483648, 2147483647), .inr (.inr (some (.inl 55)))]) (H := HL_S2) (Ts := [([.inl (-2147483648, 2147483647)], HL_S2)]) hΦ s_X12_post ⟨topA_ok _, rfl, trivial⟩ q2 (by decide +kernel) (fun T hT st h2 q3 q4 => ?_)
  cases List.mem_singleton.mp hT
  obtain ⟨w, rfl, _⟩ := st1 q3
  exact K τ h2 hΦ (Or.inr (Or.inl q4))

set_option maxRecDepth 100000 in
theorem g_law_days_S2 {l : Launch} {Ls : Nat} {xs : Nat → Int32} {c18 : Blk} {τ : Nat → List (Option Nat)} {h : PH} {j : Nat} (hΦ : Φ τ) (hj : 6 * j + 6 ≤ Ls) (hL : Ls ≤ 3072) (hh : all2 (gC ρ0 τ) HL_S2 h) (K : ∀ (τ2 : Nat → List (Option Nat)) (h2 : PH), Φ τ2 → HH τ2 h2 → c18 [some (.inr (some (.inr []))), some (.inr (some (.inl 0))), some (.inr (some (.inl 55))), some (.inl (f_add (nI (6 * j)) 6))] [] h2) : b2_L_law_339 l Ls xs c18 [some (.inr (some (.inr []))), some (.inr (some (.inl 0))), some (.inr (some (.inl 55))), some (.inl (nI (6 * j)))] [] h := by
  refine And.intro (sv (k := 1) hj hL (by omega)) ?_
  refine callT (τ := τ) (tm := tmO [1, 14, 19, 27, 29, 32, 35, 54, 39, 40]) (A := [.inl (-2147483648, 2147483647), .inr (.inr (some (.inl 0)))]) (H := HL_S2) (Ts := [([.inl (-2147483648, 2147483647)], HL_S2)]) hΦ s_X11_days ⟨topA_ok _, rfl, trivial⟩ hh (by decide +kernel) (fun T hT st h1 q1 q2 => ?_)
  cases List.mem_singleton.mp hT
  obtain ⟨v, rfl, _⟩ := st1 q1
  refine And.intro (sv (k := 1) hj hL (by omega)) ?_
  refine callT (τ := τ) (tm := tmO [57, 58, 63, 64, 65, 66, 67, 68, 69, 70, 78, 79, 80, 81, 83, 84, 85, 86]) (A := [.inl (-2147483648, 2147483647), .inr (.inr (some (.inl 55)))]) (H := HL_S2) (Ts := [([.inl (-2147483648, 2147483647)], HL_S2)]) hΦ s_X12_days ⟨topA_ok _, rfl, trivial⟩ q2 (by decide +kernel) (fun T hT st h2 q3 q4 => ?_)
  cases List.mem_singleton.mp hT
  obtain ⟨w, rfl, _⟩ := st1 q3
  exact K τ h2 hΦ (Or.inr (Or.inl q4))

set_option maxRecDepth 100000 in
theorem g_law_tried_S2 {l : Launch} {Ls : Nat} {xs : Nat → Int32} {c18 : Blk} {τ : Nat → List (Option Nat)} {h : PH} {j : Nat} (hΦ : Φ τ) (hj : 6 * j + 6 ≤ Ls) (hL : Ls ≤ 3072) (hh : all2 (gC ρ0 τ) HL_S2 h) (K : ∀ (τ2 : Nat → List (Option Nat)) (h2 : PH), Φ τ2 → HH τ2 h2 → c18 [some (.inr (some (.inr []))), some (.inr (some (.inl 0))), some (.inr (some (.inl 55))), some (.inl (f_add (nI (6 * j)) 6))] [] h2) : b2_L_law_362 l Ls xs c18 [some (.inr (some (.inr []))), some (.inr (some (.inl 0))), some (.inr (some (.inl 55))), some (.inl (nI (6 * j)))] [] h := by
  refine And.intro (sv (k := 1) hj hL (by omega)) ?_
  refine And.intro (sv (k := 2) hj hL (by omega)) ?_
  refine callT (τ := τ) (tm := tmO [1, 14, 27, 29, 32, 35, 54, 39, 40]) (A := [.inl (-2147483648, 2147483647), .inl (-2147483648, 2147483647), .inr (.inr (some (.inl 0)))]) (H := HL_S2) (Ts := [([.inl (-2147483648, 2147483647)], HL_S2)]) hΦ s_X11_tried ⟨topA_ok _, topA_ok _, rfl, trivial⟩ hh (by decide +kernel) (fun T hT st h1 q1 q2 => ?_)
  cases List.mem_singleton.mp hT
  obtain ⟨v, rfl, _⟩ := st1 q1
  refine And.intro (sv (k := 1) hj hL (by omega)) ?_
  refine And.intro (sv (k := 2) hj hL (by omega)) ?_
  refine callT (τ := τ) (tm := tmO [58, 63, 64, 65, 66, 67, 68, 69, 70, 78, 79, 80, 81, 83, 84, 85, 86]) (A := [.inl (-2147483648, 2147483647), .inl (-2147483648, 2147483647), .inr (.inr (some (.inl 55)))]) (H := HL_S2) (Ts := [([.inl (-2147483648, 2147483647)], HL_S2)]) hΦ s_X12_tried ⟨topA_ok _, topA_ok _, rfl, trivial⟩ q2 (by decide +kernel) (fun T hT st h2 q3 q4 => ?_)
  cases List.mem_singleton.mp hT
  obtain ⟨w, rfl, _⟩ := st1 q3
  exact K τ h2 hΦ (Or.inr (Or.inl q4))

set_option maxRecDepth 100000 in
theorem g_law_letterIs_S2 {l : Launch} {Ls : Nat} {xs : Nat → Int32} {c18 : Blk} {τ : Nat → List (Option Nat)} {h : PH} {j : Nat} (hΦ : Φ τ) (hj : 6 * j + 6 ≤ Ls) (hL : Ls ≤ 3072) (hh : all2 (gC ρ0 τ) HL_S2 h) (K : ∀ (τ2 : Nat → List (Option Nat)) (h2 : PH), Φ τ2 → HH τ2 h2 → c18 [some (.inr (some (.inr []))), some (.inr (some (.inl 0))), some (.inr (some (.inl 55))), some (.inl (f_add (nI (6 * j)) 6))] [] h2) : b2_L_law_395 l Ls xs c18 [some (.inr (some (.inr []))), some (.inr (some (.inl 0))), some (.inr (some (.inl 55))), some (.inl (nI (6 * j)))] [] h := by
  refine And.intro (sv (k := 1) hj hL (by omega)) ?_
  refine And.intro (sv (k := 2) hj hL (by omega)) ?_
  refine callT (τ := τ) (tm := tmO [1, 14, 19, 24, 27, 29, 32, 35, 54, 39, 47, 40]) (A := [.inl (-2147483648, 2147483647), .inl (-2147483648, 2147483647), .inr (.inr (some (.inl 0)))]) (H := HL_S2) (Ts := [([.inl (-2147483648, 2147483647)], HL_S2)]) hΦ s_X11_letterIs ⟨topA_ok _, topA_ok _, rfl, trivial⟩ hh (by decide +kernel) (fun T hT st h1 q1 q2 => ?_)
  cases List.mem_singleton.mp hT
  obtain ⟨v, rfl, _⟩ := st1 q1
  refine And.intro (sv (k := 1) hj hL (by omega)) ?_
  refine And.intro (sv (k := 2) hj hL (by omega)) ?_
  refine callT (τ := τ) (tm := tmO [57, 58, 62, 63, 64, 65, 66, 67, 68, 69, 70, 71, 72, 73, 74, 75, 76, 77, 78, 79, 80, 81, 82, 83, 84, 85, 86]) (A := [.inl (-2147483648, 2147483647), .inl (-2147483648, 2147483647), .inr (.inr (some (.inl 55)))]) (H := HL_S2) (Ts := [([.inl (-2147483648, 2147483647)], HL_S2)]) hΦ s_X12_letterIs ⟨topA_ok _, topA_ok _, rfl, trivial⟩ q2 (by decide +kernel) (fun T hT st h2 q3 q4 => ?_)
  cases List.mem_singleton.mp hT
  obtain ⟨w, rfl, _⟩ := st1 q3
  exact K τ h2 hΦ (Or.inr (Or.inl q4))

set_option maxRecDepth 100000 in
theorem g_law_stampIs_S2 {l : Launch} {Ls : Nat} {xs : Nat → Int32} {c18 : Blk} {τ : Nat → List (Option Nat)} {h : PH} {j : Nat} (hΦ : Φ τ) (hj : 6 * j + 6 ≤ Ls) (hL : Ls ≤ 3072) (hh : all2 (gC ρ0 τ) HL_S2 h) (K : ∀ (τ2 : Nat → List (Option Nat)) (h2 : PH), Φ τ2 → HH τ2 h2 → c18 [some (.inr (some (.inr []))), some (.inr (some (.inl 0))), some (.inr (some (.inl 55))), some (.inl (f_add (nI (6 * j)) 6))] [] h2) : b2_L_law_428 l Ls xs c18 [some (.inr (some (.inr []))), some (.inr (some (.inl 0))), some (.inr (some (.inl 55))), some (.inl (nI (6 * j)))] [] h := by
  refine And.intro (sv (k := 1) hj hL (by omega)) ?_
  refine And.intro (sv (k := 2) hj hL (by omega)) ?_
  refine callT (τ := τ) (tm := tmO [1, 14, 19, 24, 27, 29, 32, 35, 54, 39, 47, 40]) (A := [.inl (-2147483648, 2147483647), .inl (-2147483648, 2147483647), .inr (.inr (some (.inl 0)))]) (H := HL_S2) (Ts := [([.inl (-2147483648, 2147483647)], HL_S2)]) hΦ s_X11_stampIs ⟨topA_ok _, topA_ok _, rfl, trivial⟩ hh (by decide +kernel) (fun T hT st h1 q1 q2 => ?_)
  cases List.mem_singleton.mp hT
  obtain ⟨v, rfl, _⟩ := st1 q1
  refine And.intro (sv (k := 1) hj hL (by omega)) ?_
  refine And.intro (sv (k := 2) hj hL (by omega)) ?_
  refine callT (τ := τ) (tm := tmO [57, 58, 59, 62, 63, 64, 65, 66, 67, 68, 69, 70, 71, 72, 73, 74, 75, 76, 77, 78, 79, 80, 81, 82, 83, 84, 85, 86]) (A := [.inl (-2147483648, 2147483647), .inl (-2147483648, 2147483647), .inr (.inr (some (.inl 55)))]) (H := HL_S2) (Ts := [([.inl (-2147483648, 2147483647)], HL_S2)]) hΦ s_X12_stampIs ⟨topA_ok _, topA_ok _, rfl, trivial⟩ q2 (by decide +kernel) (fun T hT st h2 q3 q4 => ?_)
  cases List.mem_singleton.mp hT
  obtain ⟨w, rfl, _⟩ := st1 q3
  exact K τ h2 hΦ (Or.inr (Or.inl q4))

set_option maxRecDepth 100000 in
theorem g_law_comes_S2 {l : Launch} {Ls : Nat} {xs : Nat → Int32} {c18 : Blk} {τ : Nat → List (Option Nat)} {h : PH} {j : Nat} (hΦ : Φ τ) (hj : 6 * j + 6 ≤ Ls) (hL : Ls ≤ 3072) (hh : all2 (gC ρ0 τ) HL_S2 h) (K : ∀ (τ2 : Nat → List (Option Nat)) (h2 : PH), Φ τ2 → HH τ2 h2 → c18 [some (.inr (some (.inr []))), some (.inr (some (.inl 0))), some (.inr (some (.inl 55))), some (.inl (f_add (nI (6 * j)) 6))] [] h2) : b2_L_law_461 l Ls xs c18 [some (.inr (some (.inr []))), some (.inr (some (.inl 0))), some (.inr (some (.inl 55))), some (.inl (nI (6 * j)))] [] h := by
  refine And.intro (sv (k := 1) hj hL (by omega)) ?_
  refine And.intro (sv (k := 2) hj hL (by omega)) ?_
  refine And.intro (sv (k := 3) hj hL (by omega)) ?_
  refine callT (τ := τ) (tm := tmO [1, 14, 27, 29, 32, 35, 54, 39, 40]) (A := [.inl (-2147483648, 2147483647), .inl (-2147483648, 2147483647), .inl (-2147483648, 2147483647), .inr (.inr (some (.inl 0)))]) (H := HL_S2) (Ts := [([.inl (-2147483648, 2147483647)], HL_S2)]) hΦ s_X11_comes ⟨topA_ok _, topA_ok _, topA_ok _, rfl, trivial⟩ hh (by decide +kernel) (fun T hT st h1 q1 q2 => ?_)
  cases List.mem_singleton.mp hT
  obtain ⟨v, rfl, _⟩ := st1 q1
  refine And.intro (sv (k := 1) hj hL (by omega)) ?_
  refine And.intro (sv (k := 2) hj hL (by omega)) ?_
  refine And.intro (sv (k := 3) hj hL (by omega)) ?_
  refine callT (τ := τ) (tm := tmO [58, 63, 64, 65, 66, 67, 68, 69, 70, 78, 79, 80, 81, 83, 84, 85, 86]) (A := [.inl (-2147483648, 2147483647), .inl (-2147483648, 2147483647), .inl (-2147483648, 2147483647), .inr (.inr (some (.inl 55)))]) (H := HL_S2) (Ts := [([.inl (-2147483648, 2147483647)], HL_S2)]) hΦ s_X12_comes ⟨topA_ok _, topA_ok _, topA_ok _, rfl, trivial⟩ q2 (by decide +kernel) (fun T hT st h2 q3 q4 => ?_)
  cases List.mem_singleton.mp hT
  obtain ⟨w, rfl, _⟩ := st1 q3
  exact K τ h2 hΦ (Or.inr (Or.inl q4))

set_option maxRecDepth 100000 in
theorem g_law_atRest_S2 {l : Launch} {Ls : Nat} {xs : Nat → Int32} {c18 : Blk} {τ : Nat → List (Option Nat)} {h : PH} {j : Nat} (hΦ : Φ τ) (hj : 6 * j + 6 ≤ Ls) (hL : Ls ≤ 3072) (hh : all2 (gC ρ0 τ) HL_S2 h) (K : ∀ (τ2 : Nat → List (Option Nat)) (h2 : PH), Φ τ2 → HH τ2 h2 → c18 [some (.inr (some (.inr []))), some (.inr (some (.inl 0))), some (.inr (some (.inl 55))), some (.inl (f_add (nI (6 * j)) 6))] [] h2) : b2_L_law_504 l Ls xs c18 [some (.inr (some (.inr []))), some (.inr (some (.inl 0))), some (.inr (some (.inl 55))), some (.inl (nI (6 * j)))] [] h := by
  refine And.intro (sv (k := 1) hj hL (by omega)) ?_
  refine And.intro (sv (k := 2) hj hL (by omega)) ?_
  refine callT (τ := τ) (tm := tmO [1, 14, 27, 29, 32, 35, 54, 39, 40]) (A := [.inl (-2147483648, 2147483647), .inl (-2147483648, 2147483647), .inr (.inr (some (.inl 0)))]) (H := HL_S2) (Ts := [([.inl (-2147483648, 2147483647)], HL_S2)]) hΦ s_X11_atRest ⟨topA_ok _, topA_ok _, rfl, trivial⟩ hh (by decide +kernel) (fun T hT st h1 q1 q2 => ?_)
  cases List.mem_singleton.mp hT
  obtain ⟨v, rfl, _⟩ := st1 q1
  refine And.intro (sv (k := 1) hj hL (by omega)) ?_
  refine And.intro (sv (k := 2) hj hL (by omega)) ?_
  refine callT (τ := τ) (tm := tmO [58, 63, 64, 65, 66, 67, 68, 69, 70, 78, 79, 80, 81, 83, 84, 85, 86]) (A := [.inl (-2147483648, 2147483647), .inl (-2147483648, 2147483647), .inr (.inr (some (.inl 55)))]) (H := HL_S2) (Ts := [([.inl (-2147483648, 2147483647)], HL_S2)]) hΦ s_X12_atRest ⟨topA_ok _, topA_ok _, rfl, trivial⟩ q2 (by decide +kernel) (fun T hT st h2 q3 q4 => ?_)
  cases List.mem_singleton.mp hT
  obtain ⟨w, rfl, _⟩ := st1 q3
  exact K τ h2 hΦ (Or.inr (Or.inl q4))

set_option maxRecDepth 100000 in
theorem g_law_meet_S2 {l : Launch} {Ls : Nat} {xs : Nat → Int32} {c18 : Blk} {τ : Nat → List (Option Nat)} {h : PH} {j : Nat} (hΦ : Φ τ) (hj : 6 * j + 6 ≤ Ls) (hL : Ls ≤ 3072) (hh : all2 (gC ρ0 τ) HL_S2 h) (K : ∀ (τ2 : Nat → List (Option Nat)) (h2 : PH), Φ τ2 → HH τ2 h2 → c18 [some (.inr (some (.inr []))), some (.inr (some (.inl 0))), some (.inr (some (.inl 55))), some (.inl (f_add (nI (6 * j)) 6))] [] h2) : b2_L_law_537 l Ls xs c18 [some (.inr (some (.inr []))), some (.inr (some (.inl 0))), some (.inr (some (.inl 55))), some (.inl (nI (6 * j)))] [] h := by
  refine And.intro (sv (k := 1) hj hL (by omega)) ?_
  refine And.intro (sv (k := 2) hj hL (by omega)) ?_
  refine And.intro (sv (k := 3) hj hL (by omega)) ?_
  refine callT (τ := τ) (tm := tmO [1, 14, 27, 29, 32, 35, 54, 39, 40]) (A := [.inl (-2147483648, 2147483647), .inl (-2147483648, 2147483647), .inl (-2147483648, 2147483647), .inr (.inr (some (.inl 0)))]) (H := HL_S2) (Ts := [([.inl (-2147483648, 2147483647)], HL_S2)]) hΦ s_X11_meet ⟨topA_ok _, topA_ok _, topA_ok _, rfl, trivial⟩ hh (by decide +kernel) (fun T hT st h1 q1 q2 => ?_)
  cases List.mem_singleton.mp hT
  obtain ⟨v, rfl, _⟩ := st1 q1
  refine And.intro (sv (k := 1) hj hL (by omega)) ?_
  refine And.intro (sv (k := 2) hj hL (by omega)) ?_
  refine And.intro (sv (k := 3) hj hL (by omega)) ?_
  refine callT (τ := τ) (tm := tmO [58, 63, 64, 65, 66, 67, 68, 69, 70, 78, 79, 80, 81, 83, 84, 85, 86]) (A := [.inl (-2147483648, 2147483647), .inl (-2147483648, 2147483647), .inl (-2147483648, 2147483647), .inr (.inr (some (.inl 55)))]) (H := HL_S2) (Ts := [([.inl (-2147483648, 2147483647)], HL_S2)]) hΦ s_X12_meet ⟨topA_ok _, topA_ok _, topA_ok _, rfl, trivial⟩ q2 (by decide +kernel) (fun T hT st h2 q3 q4 => ?_)
  cases List.mem_singleton.mp hT
  obtain ⟨w, rfl, _⟩ := st1 q3
  exact K τ h2 hΦ (Or.inr (Or.inl q4))

set_option maxRecDepth 100000 in
theorem g_law_again_S2 {l : Launch} {Ls : Nat} {xs : Nat → Int32} {c18 : Blk} {τ : Nat → List (Option Nat)} {h : PH} {j : Nat} (hΦ : Φ τ) (hj : 6 * j + 6 ≤ Ls) (hL : Ls ≤ 3072) (hh : all2 (gC ρ0 τ) HL_S2 h) (K : ∀ (τ2 : Nat → List (Option Nat)) (h2 : PH), Φ τ2 → HH τ2 h2 → c18 [some (.inr (some (.inr []))), some (.inr (some (.inl 0))), some (.inr (some (.inl 55))), some (.inl (f_add (nI (6 * j)) 6))] [] h2) : b2_L_law_580 l Ls xs c18 [some (.inr (some (.inr []))), some (.inr (some (.inl 0))), some (.inr (some (.inl 55))), some (.inl (nI (6 * j)))] [] h := by
  refine And.intro (sv (k := 1) hj hL (by omega)) ?_
  refine And.intro (sv (k := 2) hj hL (by omega)) ?_
  refine callT (τ := τ) (tm := tmO [1, 14, 27, 29, 32, 35, 54, 40]) (A := [.inl (-2147483648, 2147483647), .inl (-2147483648, 2147483647), .inr (.inr (some (.inl 0)))]) (H := HL_S2) (Ts := [([.inl (-2147483648, 2147483647)], HL_S2)]) hΦ s_X11_again ⟨topA_ok _, topA_ok _, rfl, trivial⟩ hh (by decide +kernel) (fun T hT st h1 q1 q2 => ?_)
  cases List.mem_singleton.mp hT
  obtain ⟨v, rfl, _⟩ := st1 q1
  refine And.intro (sv (k := 1) hj hL (by omega)) ?_
  refine And.intro (sv (k := 2) hj hL (by omega)) ?_
  refine callT (τ := τ) (tm := tmO [58, 63, 64, 65, 66, 67, 68, 69, 70, 78, 79, 80, 81, 84, 85, 86]) (A := [.inl (-2147483648, 2147483647), .inl (-2147483648, 2147483647), .inr (.inr (some (.inl 55)))]) (H := HL_S2) (Ts := [([.inl (-2147483648, 2147483647)], HL_S2)]) hΦ s_X12_again ⟨topA_ok _, topA_ok _, rfl, trivial⟩ q2 (by decide +kernel) (fun T hT st h2 q3 q4 => ?_)
  cases List.mem_singleton.mp hT
  obtain ⟨w, rfl, _⟩ := st1 q3
  exact K τ h2 hΦ (Or.inr (Or.inl q4))

set_option maxRecDepth 100000 in
theorem g_law_home_S2 {l : Launch} {Ls : Nat} {xs : Nat → Int32} {c18 : Blk} {τ : Nat → List (Option Nat)} {h : PH} {j : Nat} (hΦ : Φ τ) (hj : 6 * j + 6 ≤ Ls) (hL : Ls ≤ 3072) (hh : all2 (gC ρ0 τ) HL_S2 h) (K : ∀ (τ2 : Nat → List (Option Nat)) (h2 : PH), Φ τ2 → HH τ2 h2 → c18 [some (.inr (some (.inr []))), some (.inr (some (.inl 0))), some (.inr (some (.inl 55))), some (.inl (f_add (nI (6 * j)) 6))] [] h2) : b2_L_law_613 l Ls xs c18 [some (.inr (some (.inr []))), some (.inr (some (.inl 0))), some (.inr (some (.inl 55))), some (.inl (nI (6 * j)))] [] h := by
  refine And.intro (sv (k := 1) hj hL (by omega)) ?_
  refine And.intro (sv (k := 2) hj hL (by omega)) ?_
  refine callT (τ := τ) (tm := tmO [1, 14, 19, 24, 27, 29, 32, 35, 54, 39, 47, 40]) (A := [.inl (-2147483648, 2147483647), .inl (-2147483648, 2147483647), .inr (.inr (some (.inl 0)))]) (H := HL_S2) (Ts := [([.inl (-2147483648, 2147483647)], HL_S2)]) hΦ s_X11_home ⟨topA_ok _, topA_ok _, rfl, trivial⟩ hh (by decide +kernel) (fun T hT st h1 q1 q2 => ?_)
  cases List.mem_singleton.mp hT
  obtain ⟨v, rfl, _⟩ := st1 q1
  refine And.intro (sv (k := 1) hj hL (by omega)) ?_
  refine And.intro (sv (k := 2) hj hL (by omega)) ?_
  refine callT (τ := τ) (tm := tmO [57, 58, 59, 62, 63, 64, 65, 66, 67, 68, 69, 70, 71, 72, 73, 74, 75, 76, 77, 78, 79, 80, 81, 82, 83, 84, 85, 86]) (A := [.inl (-2147483648, 2147483647), .inl (-2147483648, 2147483647), .inr (.inr (some (.inl 55)))]) (H := HL_S2) (Ts := [([.inl (-2147483648, 2147483647)], HL_S2)]) hΦ s_X12_home ⟨topA_ok _, topA_ok _, rfl, trivial⟩ q2 (by decide +kernel) (fun T hT st h2 q3 q4 => ?_)
  cases List.mem_singleton.mp hT
  obtain ⟨w, rfl, _⟩ := st1 q3
  exact K τ h2 hΦ (Or.inr (Or.inl q4))

set_option maxRecDepth 100000 in
theorem g_law_lying_S2 {l : Launch} {Ls : Nat} {xs : Nat → Int32} {c18 : Blk} {τ : Nat → List (Option Nat)} {h : PH} {j : Nat} (hΦ : Φ τ) (hj : 6 * j + 6 ≤ Ls) (hL : Ls ≤ 3072) (hh : all2 (gC ρ0 τ) HL_S2 h) (K : ∀ (τ2 : Nat → List (Option Nat)) (h2 : PH), Φ τ2 → HH τ2 h2 → c18 [some (.inr (some (.inr []))), some (.inr (some (.inl 0))), some (.inr (some (.inl 55))), some (.inl (f_add (nI (6 * j)) 6))] [] h2) : b2_L_law_646 l Ls xs c18 [some (.inr (some (.inr []))), some (.inr (some (.inl 0))), some (.inr (some (.inl 55))), some (.inl (nI (6 * j)))] [] h := by
  refine And.intro (sv (k := 1) hj hL (by omega)) ?_
  refine callT (τ := τ) (tm := tmO [1, 3, 14, 19, 24, 27, 29, 32, 35, 54, 39, 47, 40]) (A := [.inl (-2147483648, 2147483647), .inr (.inr (some (.inl 0)))]) (H := HL_S2) (Ts := [([.inl (-2147483648, 2147483647)], HL_S2)]) hΦ s_X11_lying ⟨topA_ok _, rfl, trivial⟩ hh (by decide +kernel) (fun T hT st h1 q1 q2 => ?_)
  cases List.mem_singleton.mp hT
  obtain ⟨v, rfl, _⟩ := st1 q1
  refine And.intro (sv (k := 1) hj hL (by omega)) ?_
  refine callT (τ := τ) (tm := tmO [57, 58, 59, 60, 61, 62, 63, 64, 65, 66, 67, 68, 69, 70, 71, 72, 73, 74, 75, 76, 77, 78, 79, 80, 81, 82, 83, 84, 85, 86]) (A := [.inl (-2147483648, 2147483647), .inr (.inr (some (.inl 55)))]) (H := HL_S2) (Ts := [([.inl (-2147483648, 2147483647)], HL_S2)]) hΦ s_X12_lying ⟨topA_ok _, rfl, trivial⟩ q2 (by decide +kernel) (fun T hT st h2 q3 q4 => ?_)
  cases List.mem_singleton.mp hT
  obtain ⟨w, rfl, _⟩ := st1 q3
  exact K τ h2 hΦ (Or.inr (Or.inl q4))

set_option maxRecDepth 100000 in
theorem g_law_stamped_S2 {l : Launch} {Ls : Nat} {xs : Nat → Int32} {c18 : Blk} {τ : Nat → List (Option Nat)} {h : PH} {j : Nat} (hΦ : Φ τ) (hj : 6 * j + 6 ≤ Ls) (hL : Ls ≤ 3072) (hh : all2 (gC ρ0 τ) HL_S2 h) (K : ∀ (τ2 : Nat → List (Option Nat)) (h2 : PH), Φ τ2 → HH τ2 h2 → c18 [some (.inr (some (.inr []))), some (.inr (some (.inl 0))), some (.inr (some (.inl 55))), some (.inl (f_add (nI (6 * j)) 6))] [] h2) : b2_L_law_669 l Ls xs c18 [some (.inr (some (.inr []))), some (.inr (some (.inl 0))), some (.inr (some (.inl 55))), some (.inl (nI (6 * j)))] [] h := by
  refine And.intro (sv (k := 1) hj hL (by omega)) ?_
  refine And.intro (sv (k := 2) hj hL (by omega)) ?_
  refine And.intro (sv (k := 3) hj hL (by omega)) ?_
  refine And.intro (sv (k := 4) hj hL (by omega)) ?_
  refine And.intro (sv (k := 5) hj hL (by omega)) ?_
  refine callT (τ := τ) (tm := tmO [9, 14, 19, 24, 29, 32, 35, 54, 39, 47, 40]) (A := [.inl (-2147483648, 2147483647), .inl (-2147483648, 2147483647), .inl (-2147483648, 2147483647), .inl (-2147483648, 2147483647), .inl (-2147483648, 2147483647), .inr (.inr (some (.inl 0)))]) (H := HL_S2) (Ts := [([.inl (-2147483648, 2147483647)], HL_S2)]) hΦ s_X11_stamped ⟨topA_ok _, topA_ok _, topA_ok _, topA_ok _, topA_ok _, rfl, trivial⟩ hh (by decide +kernel) (fun T hT st h1 q1 q2 => ?_)
  cases List.mem_singleton.mp hT
  obtain ⟨v, rfl, _⟩ := st1 q1
  refine And.intro (sv (k := 1) hj hL (by omega)) ?_
  refine And.intro (sv (k := 2) hj hL (by omega)) ?_
  refine And.intro (sv (k := 3) hj hL (by omega)) ?_
  refine And.intro (sv (k := 4) hj hL (by omega)) ?_
  refine And.intro (sv (k := 5) hj hL (by omega)) ?_
  refine callT (τ := τ) (tm := tmO [56, 57, 58, 63, 65, 66, 67, 68, 69, 70, 71, 72, 73, 74, 75, 76, 77, 78, 79, 80, 81, 82, 83, 85, 86]) (A := [.inl (-2147483648, 2147483647), .inl (-2147483648, 2147483647), .inl (-2147483648, 2147483647), .inl (-2147483648, 2147483647), .inl (-2147483648, 2147483647), .inr (.inr (some (.inl 55)))]) (H := HL_S2) (Ts := [([.inl (-2147483648, 2147483647)], HL_S2)]) hΦ s_X12_stamped ⟨topA_ok _, topA_ok _, topA_ok _, topA_ok _, topA_ok _, rfl, trivial⟩ q2 (by decide +kernel) (fun T hT st h2 q3 q4 => ?_)
  cases List.mem_singleton.mp hT
  obtain ⟨w, rfl, _⟩ := st1 q3
  exact K τ h2 hΦ (Or.inr (Or.inl q4))

set_option maxRecDepth 100000 in
theorem g_law_hang_S2 {l : Launch} {Ls : Nat} {xs : Nat → Int32} {c18 : Blk} {τ : Nat → List (Option Nat)} {h : PH} {j : Nat} (hΦ : Φ τ) (hj : 6 * j + 6 ≤ Ls) (hL : Ls ≤ 3072) (hh : all2 (gC ρ0 τ) HL_S2 h) (K : ∀ (τ2 : Nat → List (Option Nat)) (h2 : PH), Φ τ2 → HH τ2 h2 → c18 [some (.inr (some (.inr []))), some (.inr (some (.inl 0))), some (.inr (some (.inl 55))), some (.inl (f_add (nI (6 * j)) 6))] [] h2) : b2_L_law_732 l Ls xs c18 [some (.inr (some (.inr []))), some (.inr (some (.inl 0))), some (.inr (some (.inl 55))), some (.inl (nI (6 * j)))] [] h := by
  refine And.intro (sv (k := 1) hj hL (by omega)) ?_
  refine And.intro (sv (k := 2) hj hL (by omega)) ?_
  refine And.intro (sv (k := 3) hj hL (by omega)) ?_
  refine callT (τ := τ) (tm := tmO [9, 14, 19, 24, 29, 32, 35, 54, 39, 47, 40]) (A := [.inl (-2147483648, 2147483647), .inl (-2147483648, 2147483647), .inl (-2147483648, 2147483647), .inr (.inr (some (.inl 0)))]) (H := HL_S2) (Ts := [([.inl (-2147483648, 2147483647)], HL_S2)]) hΦ s_X11_hang ⟨topA_ok _, topA_ok _, topA_ok _, rfl, trivial⟩ hh (by decide +kernel) (fun T hT st h1 q1 q2 => ?_)
  cases List.mem_singleton.mp hT
  obtain ⟨v, rfl, _⟩ := st1 q1
  refine And.intro (sv (k := 1) hj hL (by omega)) ?_
  refine And.intro (sv (k := 2) hj hL (by omega)) ?_
  refine And.intro (sv (k := 3) hj hL (by omega)) ?_
  refine callT (τ := τ) (tm := tmO [56, 57, 58, 62, 63, 65, 66, 67, 68, 69, 70, 71, 72, 73, 74, 75, 76, 77, 78, 79, 80, 81, 82, 83, 85, 86]) (A := [.inl (-2147483648, 2147483647), .inl (-2147483648, 2147483647), .inl (-2147483648, 2147483647), .inr (.inr (some (.inl 55)))]) (H := HL_S2) (Ts := [([.inl (-2147483648, 2147483647)], HL_S2)]) hΦ s_X12_hang ⟨topA_ok _, topA_ok _, topA_ok _, rfl, trivial⟩ q2 (by decide +kernel) (fun T hT st h2 q3 q4 => ?_)
  cases List.mem_singleton.mp hT
  obtain ⟨w, rfl, _⟩ := st1 q3
  exact K τ h2 hΦ (Or.inr (Or.inl q4))

set_option maxRecDepth 100000 in
theorem g_law_falseOnes_S2 {l : Launch} {Ls : Nat} {xs : Nat → Int32} {c18 : Blk} {τ : Nat → List (Option Nat)} {h : PH} {j : Nat} (hΦ : Φ τ) (hj : 6 * j + 6 ≤ Ls) (hL : Ls ≤ 3072) (hh : all2 (gC ρ0 τ) HL_S2 h) (K : ∀ (τ2 : Nat → List (Option Nat)) (h2 : PH), Φ τ2 → HH τ2 h2 → c18 [some (.inr (some (.inr []))), some (.inr (some (.inl 0))), some (.inr (some (.inl 55))), some (.inl (f_add (nI (6 * j)) 6))] [] h2) : b2_L_law_775 l Ls xs c18 [some (.inr (some (.inr []))), some (.inr (some (.inl 0))), some (.inr (some (.inl 55))), some (.inl (nI (6 * j)))] [] h := by
  refine And.intro (sv (k := 1) hj hL (by omega)) ?_
  refine And.intro (sv (k := 2) hj hL (by omega)) ?_
  refine And.intro (sv (k := 3) hj hL (by omega)) ?_
  refine And.intro (sv (k := 4) hj hL (by omega)) ?_
  refine And.intro (sv (k := 5) hj hL (by omega)) ?_
  refine callT (τ := τ) (tm := tmO [9, 14, 19, 24, 29, 32, 35, 54, 39, 47, 40]) (A := [.inl (-2147483648, 2147483647), .inl (-2147483648, 2147483647), .inl (-2147483648, 2147483647), .inl (-2147483648, 2147483647), .inl (-2147483648, 2147483647), .inr (.inr (some (.inl 0)))]) (H := HL_S2) (Ts := [([.inl (-2147483648, 2147483647)], HL_S2)]) hΦ s_X11_falseOnes ⟨topA_ok _, topA_ok _, topA_ok _, topA_ok _, topA_ok _, rfl, trivial⟩ hh (by decide +kernel) (fun T hT st h1 q1 q2 => ?_)
  cases List.mem_singleton.mp hT
  obtain ⟨v, rfl, _⟩ := st1 q1
  refine And.intro (sv (k := 1) hj hL (by omega)) ?_
  refine And.intro (sv (k := 2) hj hL (by omega)) ?_
  refine And.intro (sv (k := 3) hj hL (by omega)) ?_
  refine And.intro (sv (k := 4) hj hL (by omega)) ?_
  refine And.intro (sv (k := 5) hj hL (by omega)) ?_
  refine callT (τ := τ) (tm := tmO [56, 57, 58, 62, 63, 65, 66, 67, 68, 69, 70, 71, 72, 73, 74, 75, 76, 77, 78, 79, 80, 81, 82, 83, 85, 86]) (A := [.inl (-2147483648, 2147483647), .inl (-2147483648, 2147483647), .inl (-2147483648, 2147483647), .inl (-2147483648, 2147483647), .inl (-2147483648, 2147483647), .inr (.inr (some (.inl 55)))]) (H := HL_S2) (Ts := [([.inl (-2147483648, 2147483647)], HL_S2)]) hΦ s_X12_falseOnes ⟨topA_ok _, topA_ok _, topA_ok _, topA_ok _, topA_ok _, rfl, trivial⟩ q2 (by decide +kernel) (fun T hT st h2 q3 q4 => ?_)
  cases List.mem_singleton.mp hT
  obtain ⟨w, rfl, _⟩ := st1 q3
  exact K τ h2 hΦ (Or.inr (Or.inl q4))

set_option maxRecDepth 100000 in
theorem g_law_printed_S2 {l : Launch} {Ls : Nat} {xs : Nat → Int32} {c18 : Blk} {τ : Nat → List (Option Nat)} {h : PH} {j : Nat} (hΦ : Φ τ) (hj : 6 * j + 6 ≤ Ls) (hL : Ls ≤ 3072) (hh : all2 (gC ρ0 τ) HL_S2 h) (K : ∀ (τ2 : Nat → List (Option Nat)) (h2 : PH), Φ τ2 → HH τ2 h2 → c18 [some (.inr (some (.inr []))), some (.inr (some (.inl 0))), some (.inr (some (.inl 55))), some (.inl (f_add (nI (6 * j)) 6))] [] h2) : b2_L_law_838 l Ls xs c18 [some (.inr (some (.inr []))), some (.inr (some (.inl 0))), some (.inr (some (.inl 55))), some (.inl (nI (6 * j)))] [] h := by
  refine And.intro (sv (k := 1) hj hL (by omega)) ?_
  refine callT (τ := τ) (tm := tmO [9, 14, 19, 24, 27, 29, 32, 35, 54, 39, 47, 40]) (A := [.inl (-2147483648, 2147483647), .inr (.inr (some (.inl 0)))]) (H := HL_S2) (Ts := [([.inl (-2147483648, 2147483647)], HL_S2)]) hΦ s_X11_printed ⟨topA_ok _, rfl, trivial⟩ hh (by decide +kernel) (fun T hT st h1 q1 q2 => ?_)
  cases List.mem_singleton.mp hT
  obtain ⟨v, rfl, _⟩ := st1 q1
  refine And.intro (sv (k := 1) hj hL (by omega)) ?_
  refine callT (τ := τ) (tm := tmO [56, 57, 58, 60, 61, 62, 63, 65, 66, 67, 68, 69, 70, 71, 72, 73, 74, 75, 76, 77, 78, 79, 80, 81, 82, 83, 84, 85, 86]) (A := [.inl (-2147483648, 2147483647), .inr (.inr (some (.inl 55)))]) (H := HL_S2) (Ts := [([.inl (-2147483648, 2147483647)], HL_S2)]) hΦ s_X12_printed ⟨topA_ok _, rfl, trivial⟩ q2 (by decide +kernel) (fun T hT st h2 q3 q4 => ?_)
  cases List.mem_singleton.mp hT
  obtain ⟨w, rfl, _⟩ := st1 q3
  exact K τ h2 hΦ (Or.inr (Or.inl q4))

set_option maxRecDepth 100000 in
theorem g_law_ship_S2 {l : Launch} {Ls : Nat} {xs : Nat → Int32} {c18 : Blk} {τ : Nat → List (Option Nat)} {h : PH} {j : Nat} (hΦ : Φ τ) (hj : 6 * j + 6 ≤ Ls) (hL : Ls ≤ 3072) (hh : all2 (gC ρ0 τ) HL_S2 h) (K : ∀ (τ2 : Nat → List (Option Nat)) (h2 : PH), Φ τ2 → HH τ2 h2 → c18 [some (.inr (some (.inr []))), some (.inr (some (.inl 0))), some (.inr (some (.inl 55))), some (.inl (f_add (nI (6 * j)) 6))] [] h2) : b2_L_law_861 l Ls xs c18 [some (.inr (some (.inr []))), some (.inr (some (.inl 0))), some (.inr (some (.inl 55))), some (.inl (nI (6 * j)))] [] h := by
  refine And.intro (sv (k := 1) hj hL (by omega)) ?_
  refine And.intro (sv (k := 2) hj hL (by omega)) ?_
  refine callT (τ := τ) (tm := tmO [3, 9, 14, 19, 24, 27, 32, 35, 54, 39, 47, 40]) (A := [.inl (-2147483648, 2147483647), .inl (-2147483648, 2147483647), .inr (.inr (some (.inl 0)))]) (H := HL_S2) (Ts := [([.inl (-2147483648, 2147483647)], HL_S2)]) hΦ s_X11_ship ⟨topA_ok _, topA_ok _, rfl, trivial⟩ hh (by decide +kernel) (fun T hT st h1 q1 q2 => ?_)
  cases List.mem_singleton.mp hT
  obtain ⟨v, rfl, _⟩ := st1 q1
  refine And.intro (sv (k := 1) hj hL (by omega)) ?_
  refine And.intro (sv (k := 2) hj hL (by omega)) ?_
  refine callT (τ := τ) (tm := tmO [56, 57, 58, 59, 60, 61, 62, 63, 65, 66, 67, 68, 69, 70, 71, 72, 73, 74, 75, 76, 77, 78, 79, 80, 81, 82, 83, 84, 85, 86]) (A := [.inl (-2147483648, 2147483647), .inl (-2147483648, 2147483647), .inr (.inr (some (.inl 55)))]) (H := HL_S2) (Ts := [([.inl (-2147483648, 2147483647)], HL_S2)]) hΦ s_X12_ship ⟨topA_ok _, topA_ok _, rfl, trivial⟩ q2 (by decide +kernel) (fun T hT st h2 q3 q4 => ?_)
  cases List.mem_singleton.mp hT
  obtain ⟨w, rfl, _⟩ := st1 q3
  exact K τ h2 hΦ (Or.inr (Or.inl q4))

set_option maxRecDepth 100000 in
theorem g_law_mule_S2 {l : Launch} {Ls : Nat} {xs : Nat → Int32} {c18 : Blk} {τ : Nat → List (Option Nat)} {h : PH} {j : Nat} (hΦ : Φ τ) (hj : 6 * j + 6 ≤ Ls) (hL : Ls ≤ 3072) (hh : all2 (gC ρ0 τ) HL_S2 h) (K : ∀ (τ2 : Nat → List (Option Nat)) (h2 : PH), Φ τ2 → HH τ2 h2 → c18 [some (.inr (some (.inr []))), some (.inr (some (.inl 0))), some (.inr (some (.inl 55))), some (.inl (f_add (nI (6 * j)) 6))] [] h2) : b2_L_law_894 l Ls xs c18 [some (.inr (some (.inr []))), some (.inr (some (.inl 0))), some (.inr (some (.inl 55))), some (.inl (nI (6 * j)))] [] h := by
  refine And.intro (sv (k := 1) hj hL (by omega)) ?_
  refine And.intro (sv (k := 2) hj hL (by omega)) ?_
  refine And.intro (sv (k := 3) hj hL (by omega)) ?_
  refine callT (τ := τ) (tm := tmO [3, 9, 14, 19, 24, 27, 32, 35, 54, 39, 47, 40]) (A := [.inl (-2147483648, 2147483647), .inl (-2147483648, 2147483647), .inl (-2147483648, 2147483647), .inr (.inr (some (.inl 0)))]) (H := HL_S2) (Ts := [([.inl (-2147483648, 2147483647)], HL_S2)]) hΦ s_X11_mule ⟨topA_ok _, topA_ok _, topA_ok _, rfl, trivial⟩ hh (by decide +kernel) (fun T hT st h1 q1 q2 => ?_)
  cases List.mem_singleton.mp hT
  obtain ⟨v, rfl, _⟩ := st1 q1
  refine And.intro (sv (k := 1) hj hL (by omega)) ?_
  refine And.intro (sv (k := 2) hj hL (by omega)) ?_
  refine And.intro (sv (k := 3) hj hL (by omega)) ?_
  refine callT (τ := τ) (tm := tmO [56, 57, 58, 59, 60, 61, 62, 63, 65, 66, 67, 68, 69, 70, 71, 72, 73, 74, 75, 76, 77, 78, 79, 80, 81, 82, 83, 84, 85, 86]) (A := [.inl (-2147483648, 2147483647), .inl (-2147483648, 2147483647), .inl (-2147483648, 2147483647), .inr (.inr (some (.inl 55)))]) (H := HL_S2) (Ts := [([.inl (-2147483648, 2147483647)], HL_S2)]) hΦ s_X12_mule ⟨topA_ok _, topA_ok _, topA_ok _, rfl, trivial⟩ q2 (by decide +kernel) (fun T hT st h2 q3 q4 => ?_)
  cases List.mem_singleton.mp hT
  obtain ⟨w, rfl, _⟩ := st1 q3
  exact K τ h2 hΦ (Or.inr (Or.inl q4))

set_option maxRecDepth 100000 in
theorem g_law_marks_S2 {l : Launch} {Ls : Nat} {xs : Nat → Int32} {c18 : Blk} {τ : Nat → List (Option Nat)} {h : PH} {j : Nat} (hΦ : Φ τ) (hj : 6 * j + 6 ≤ Ls) (hL : Ls ≤ 3072) (hh : all2 (gC ρ0 τ) HL_S2 h) (K : ∀ (τ2 : Nat → List (Option Nat)) (h2 : PH), Φ τ2 → HH τ2 h2 → c18 [some (.inr (some (.inr []))), some (.inr (some (.inl 0))), some (.inr (some (.inl 55))), some (.inl (f_add (nI (6 * j)) 6))] [] h2) : b2_L_law_937 l Ls xs c18 [some (.inr (some (.inr []))), some (.inr (some (.inl 0))), some (.inr (some (.inl 55))), some (.inl (nI (6 * j)))] [] h := by
  refine And.intro (sv (k := 1) hj hL (by omega)) ?_
  refine And.intro (sv (k := 2) hj hL (by omega)) ?_
  refine callT (τ := τ) (tm := tmO [3, 9, 14, 19, 24, 27, 32, 35, 54, 39, 47, 40]) (A := [.inl (-2147483648, 2147483647), .inl (-2147483648, 2147483647), .inr (.inr (some (.inl 0)))]) (H := HL_S2) (Ts := [([.inl (-2147483648, 2147483647)], HL_S2)]) hΦ s_X11_marks ⟨topA_ok _, topA_ok _, rfl, trivial⟩ hh (by decide +kernel) (fun T hT st h1 q1 q2 => ?_)
  cases List.mem_singleton.mp hT
  obtain ⟨v, rfl, _⟩ := st1 q1
  refine And.intro (sv (k := 1) hj hL (by omega)) ?_
  refine And.intro (sv (k := 2) hj hL (by omega)) ?_
  refine callT (τ := τ) (tm := tmO [56, 57, 58, 59, 60, 61, 62, 63, 65, 66, 67, 68, 69, 70, 71, 72, 73, 74, 75, 76, 77, 78, 79, 80, 81, 82, 83, 84, 86]) (A := [.inl (-2147483648, 2147483647), .inl (-2147483648, 2147483647), .inr (.inr (some (.inl 55)))]) (H := HL_S2) (Ts := [([.inl (-2147483648, 2147483647)], HL_S2)]) hΦ s_X12_marks ⟨topA_ok _, topA_ok _, rfl, trivial⟩ q2 (by decide +kernel) (fun T hT st h2 q3 q4 => ?_)
  cases List.mem_singleton.mp hT
  obtain ⟨w, rfl, _⟩ := st1 q3
  exact K τ h2 hΦ (Or.inr (Or.inl q4))

set_option maxRecDepth 100000 in
theorem g_law_franked_S2 {l : Launch} {Ls : Nat} {xs : Nat → Int32} {c18 : Blk} {τ : Nat → List (Option Nat)} {h : PH} {j : Nat} (hΦ : Φ τ) (hj : 6 * j + 6 ≤ Ls) (hL : Ls ≤ 3072) (hh : all2 (gC ρ0 τ) HL_S2 h) (K : ∀ (τ2 : Nat → List (Option Nat)) (h2 : PH), Φ τ2 → HH τ2 h2 → c18 [some (.inr (some (.inr []))), some (.inr (some (.inl 0))), some (.inr (some (.inl 55))), some (.inl (f_add (nI (6 * j)) 6))] [] h2) : b2_L_law_970 l Ls xs c18 [some (.inr (some (.inr []))), some (.inr (some (.inl 0))), some (.inr (some (.inl 55))), some (.inl (nI (6 * j)))] [] h := by
  refine And.intro (sv (k := 1) hj hL (by omega)) ?_
  refine And.intro (sv (k := 2) hj hL (by omega)) ?_
  refine callT (τ := τ) (tm := tmO [3, 9, 14, 19, 24, 27, 32, 35, 54, 39, 47, 40]) (A := [.inl (-2147483648, 2147483647), .inl (-2147483648, 2147483647), .inr (.inr (some (.inl 0)))]) (H := HL_S2) (Ts := [([.inl (-2147483648, 2147483647)], HL_S2)]) hΦ s_X11_franked ⟨topA_ok _, topA_ok _, rfl, trivial⟩ hh (by decide +kernel) (fun T hT st h1 q1 q2 => ?_)
  cases List.mem_singleton.mp hT
  obtain ⟨v, rfl, _⟩ := st1 q1
  refine And.intro (sv (k := 1) hj hL (by omega)) ?_
  refine And.intro (sv (k := 2) hj hL (by omega)) ?_
  refine callT (τ := τ) (tm := tmO [56, 57, 58, 59, 60, 61, 62, 63, 65, 66, 67, 68, 69, 70, 71, 72, 73, 74, 75, 76, 77, 78, 79, 80, 81, 82, 83, 84, 86]) (A := [.inl (-2147483648, 2147483647), .inl (-2147483648, 2147483647), .inr (.inr (some (.inl 55)))]) (H := HL_S2) (Ts := [([.inl (-2147483648, 2147483647)], HL_S2)]) hΦ s_X12_franked ⟨topA_ok _, topA_ok _, rfl, trivial⟩ q2 (by decide +kernel) (fun T hT st h2 q3 q4 => ?_)
  cases List.mem_singleton.mp hT
  obtain ⟨w, rfl, _⟩ := st1 q3
  exact K τ h2 hΦ (Or.inr (Or.inl q4))

set_option maxRecDepth 100000 in
theorem g_law_exchange_S2 {l : Launch} {Ls : Nat} {xs : Nat → Int32} {c18 : Blk} {τ : Nat → List (Option Nat)} {h : PH} {j : Nat} (hΦ : Φ τ) (hj : 6 * j + 6 ≤ Ls) (hL : Ls ≤ 3072) (hh : all2 (gC ρ0 τ) HL_S2 h) (K : ∀ (τ2 : Nat → List (Option Nat)) (h2 : PH), Φ τ2 → HH τ2 h2 → c18 [some (.inr (some (.inr []))), some (.inr (some (.inl 0))), some (.inr (some (.inl 55))), some (.inl (f_add (nI (6 * j)) 6))] [] h2) : b2_L_law_1003 l Ls xs c18 [some (.inr (some (.inr []))), some (.inr (some (.inl 0))), some (.inr (some (.inl 55))), some (.inl (nI (6 * j)))] [] h := by
  refine And.intro (sv (k := 1) hj hL (by omega)) ?_
  refine And.intro (sv (k := 2) hj hL (by omega)) ?_
  refine callT (τ := τ) (tm := tmO [3, 9, 14, 19, 24, 27, 32, 35, 54, 39, 47, 40]) (A := [.inl (-2147483648, 2147483647), .inl (-2147483648, 2147483647), .inr (.inr (some (.inl 0)))]) (H := HL_S2) (Ts := [([.inl (-2147483648, 2147483647)], HL_S2)]) hΦ s_X11_exchange ⟨topA_ok _, topA_ok _, rfl, trivial⟩ hh (by decide +kernel) (fun T hT st h1 q1 q2 => ?_)
  cases List.mem_singleton.mp hT
  obtain ⟨v, rfl, _⟩ := st1 q1
  refine And.intro (sv (k := 1) hj hL (by omega)) ?_
  refine And.intro (sv (k := 2) hj hL (by omega)) ?_
  refine callT (τ := τ) (tm := tmO [56, 57, 58, 59, 60, 61, 62, 63, 65, 66, 67, 68, 69, 70, 71, 72, 73, 74, 75, 76, 77, 78, 79, 80, 81, 82, 83, 84, 85]) (A := [.inl (-2147483648, 2147483647), .inl (-2147483648, 2147483647), .inr (.inr (some (.inl 55)))]) (H := HL_S2) (Ts := [([.inl (-2147483648, 2147483647)], HL_S2)]) hΦ s_X12_exchange ⟨topA_ok _, topA_ok _, rfl, trivial⟩ q2 (by decide +kernel) (fun T hT st h2 q3 q4 => ?_)
  cases List.mem_singleton.mp hT
  obtain ⟨w, rfl, _⟩ := st1 q3
  exact K τ h2 hΦ (Or.inr (Or.inl q4))

set_option maxRecDepth 100000 in
theorem g_law_seed_S2 {l : Launch} {Ls : Nat} {xs : Nat → Int32} {c18 : Blk} {τ : Nat → List (Option Nat)} {h : PH} {j : Nat} (hΦ : Φ τ) (hj : 6 * j + 6 ≤ Ls) (hL : Ls ≤ 3072) (hh : all2 (gC ρ0 τ) HL_S2 h) (K : ∀ (τ2 : Nat → List (Option Nat)) (h2 : PH), Φ τ2 → HH τ2 h2 → c18 [some (.inr (some (.inr []))), some (.inr (some (.inl 0))), some (.inr (some (.inl 55))), some (.inl (f_add (nI (6 * j)) 6))] [] h2) : b2_L_law_1036 l Ls xs c18 [some (.inr (some (.inr []))), some (.inr (some (.inl 0))), some (.inr (some (.inl 55))), some (.inl (nI (6 * j)))] [] h := by
  refine And.intro (sv (k := 1) hj hL (by omega)) ?_
  refine callT (τ := τ) (tm := tmO [1, 3, 14, 19, 24, 27, 29, 32, 35, 54, 39, 47, 40]) (A := [.inl (-2147483648, 2147483647), .inr (.inr (some (.inl 0)))]) (H := HL_S2) (Ts := [([.inl (-2147483648, 2147483647)], HL_S2)]) hΦ s_X11_seed ⟨topA_ok _, rfl, trivial⟩ hh (by decide +kernel) (fun T hT st h1 q1 q2 => ?_)
  cases List.mem_singleton.mp hT
  obtain ⟨v, rfl, _⟩ := st1 q1
  refine And.intro (sv (k := 1) hj hL (by omega)) ?_
  refine callT (τ := τ) (tm := tmO [57, 58, 59, 60, 61, 62, 63, 64, 65, 66, 67, 68, 69, 70, 71, 72, 73, 74, 75, 76, 77, 78, 79, 80, 81, 82, 83, 84, 85, 86]) (A := [.inl (-2147483648, 2147483647), .inr (.inr (some (.inl 55)))]) (H := HL_S2) (Ts := [([.inl (-2147483648, 2147483647)], HL_S2)]) hΦ s_X12_seed ⟨topA_ok _, rfl, trivial⟩ q2 (by decide +kernel) (fun T hT st h2 q3 q4 => ?_)
  cases List.mem_singleton.mp hT
  obtain ⟨w, rfl, _⟩ := st1 q3
  exact K τ h2 hΦ (Or.inr (Or.inl q4))

set_option maxRecDepth 100000 in
theorem g_law_keep_S2 {l : Launch} {Ls : Nat} {xs : Nat → Int32} {c18 : Blk} {τ : Nat → List (Option Nat)} {h : PH} {j : Nat} (hΦ : Φ τ) (hj : 6 * j + 6 ≤ Ls) (hL : Ls ≤ 3072) (hh : all2 (gC ρ0 τ) HL_S2 h) (K : ∀ (τ2 : Nat → List (Option Nat)) (h2 : PH), Φ τ2 → HH τ2 h2 → c18 [some (.inr (some (.inr []))), some (.inr (some (.inl 0))), some (.inr (some (.inl 55))), some (.inl (f_add (nI (6 * j)) 6))] [] h2) : b2_L_law_1059 l Ls xs c18 [some (.inr (some (.inr []))), some (.inr (some (.inl 0))), some (.inr (some (.inl 55))), some (.inl (nI (6 * j)))] [] h := by
  refine callT (τ := τ) (tm := tmO [1, 3, 19, 24, 27, 29, 32, 35, 54, 39, 47, 40]) (A := [.inr (.inr (some (.inl 0)))]) (H := HL_S2) (Ts := [([.inl (-2147483648, 2147483647)], HL_S2_k1)]) hΦ s_X11_keep ⟨rfl, trivial⟩ hh (by decide +kernel) (fun T hT st h1 q1 q2 => ?_)
  cases List.mem_singleton.mp hT
  obtain ⟨v, rfl, _⟩ := st1 q1
  refine callT (τ := τ) (tm := tmO [57, 59, 60, 61, 62, 63, 64, 65, 66, 67, 68, 69, 70, 71, 72, 73, 74, 75, 76, 77, 78, 79, 80, 81, 82, 83, 84, 85, 86]) (A := [.inr (.inr (some (.inl 55)))]) (H := HL_S2_k1) (Ts := [([.inl (-2147483648, 2147483647)], HL_S2_k2)]) hΦ s_X12_keep ⟨rfl, trivial⟩ q2 (by decide +kernel) (fun T hT st h2 p1 p2 => ?_)
  cases List.mem_singleton.mp hT
  obtain ⟨w, rfl, _⟩ := st1 p1
  exact K (upT τ 201 1) h2 hΦ (Or.inr (Or.inl (mvH (k := 201) (c := 1) rfl (fun t ht => upT_ne ht) (by rw [upT_at]; rfl) (by decide) (by decide +kernel) p2)))

set_option maxRecDepth 100000 in
theorem g_law_undo_S2 {l : Launch} {Ls : Nat} {xs : Nat → Int32} {c18 : Blk} {τ : Nat → List (Option Nat)} {h : PH} {j : Nat} (hΦ : Φ τ) (hj : 6 * j + 6 ≤ Ls) (hL : Ls ≤ 3072) (hh : all2 (gC ρ0 τ) HL_S2 h) (K : ∀ (τ2 : Nat → List (Option Nat)) (h2 : PH), Φ τ2 → HH τ2 h2 → c18 [some (.inr (some (.inr []))), some (.inr (some (.inl 0))), some (.inr (some (.inl 55))), some (.inl (f_add (nI (6 * j)) 6))] [] h2) : b2_L_law_1072 l Ls xs c18 [some (.inr (some (.inr []))), some (.inr (some (.inl 0))), some (.inr (some (.inl 55))), some (.inl (nI (6 * j)))] [] h := by
  have hr := tokR (i := 0) (j := 14) (t := 201) hh rfl rfl rfl
  have hr : 0 ≤ (decA (τ 201) 0).toInt ∧ (decA (τ 201) 0).toInt ≤ 1 := hr
  rcases (show (decA (τ 201) 0).toInt = 0 ∨ (decA (τ 201) 0).toInt = 1 by omega) with e | e
  · have hh := fxH (k := 201) (c := 0) (E := HL_S2_u0) rfl e (by decide +kernel) hh
    refine callT (τ := τ) (tm := tmO [1, 19, 24, 27, 29, 32, 35, 54, 39, 47, 40]) (A := [.inr (.inr (some (.inl 0)))]) (H := HL_S2_u0) (Ts := [([.inl (0, 0)], HL_S2_u0)]) hΦ s_X11_undo_0 ⟨rfl, trivial⟩ hh (by decide +kernel) (fun T hT st h1 q1 q2 => ?_)
    cases List.mem_singleton.mp hT
    obtain ⟨v, rfl, hv⟩ := st1 q1
    refine callT (τ := τ) (tm := tmO [57, 59, 60, 61, 62, 63, 64, 65, 66, 67, 68, 69, 70, 71, 72, 73, 74, 75, 76, 77, 78, 79, 80, 81, 82, 83, 84, 85, 86]) (A := [.inr (.inr (some (.inl 55))), .inl (0, 0)]) (H := HL_S2_u0) (Ts := [([.inl (0, 0), .inl (0, 0)], HL_S2_u0)]) hΦ s_X12_undo_0 ⟨rfl, hv, trivial⟩ q2 (by decide +kernel) (fun T hT st h2 p1 p2 => ?_)
    cases List.mem_singleton.mp hT
    obtain ⟨w, v2, rfl, hw, hv2⟩ := st2 p1
    obtain ⟨w, rfl, w1, w2⟩ := hw
    obtain ⟨v2, rfl, u1, u2⟩ := hv2
    refine And.intro (fun _ => ?_) (fun z => absurd (i32eq.mpr (by omega)) z)
    exact K τ h2 hΦ (Or.inr (Or.inl (mvH (k := 201) (c := 0) rfl (fun _ _ => rfl) e (by decide) (by decide +kernel) p2)))
  · have hh := fxH (k := 201) (c := 1) (E := HL_S2_k2) rfl e (by decide +kernel) hh
    refine callT (τ := τ) (tm := tmO [1, 19, 24, 27, 29, 32, 35, 54, 39, 47, 40]) (A := [.inr (.inr (some (.inl 0)))]) (H := HL_S2_k2) (Ts := [([.inl (1, 1)], HL_S2_k2)]) hΦ s_X11_undo_1 ⟨rfl, trivial⟩ hh (by decide +kernel) (fun T hT st h1 q1 q2 => ?_)
    cases List.mem_singleton.mp hT
    obtain ⟨v, rfl, hv⟩ := st1 q1
    refine callT (τ := τ) (tm := tmO [57, 59, 60, 61, 62, 63, 64, 65, 66, 67, 68, 69, 70, 71, 72, 73, 74, 75, 76, 77, 78, 79, 80, 81, 82, 83, 84, 85, 86]) (A := [.inr (.inr (some (.inl 55))), .inl (1, 1)]) (H := HL_S2_k2) (Ts := [([.inl (1, 1), .inl (1, 1)], HL_S2_k2)]) hΦ s_X12_undo_1 ⟨rfl, hv, trivial⟩ q2 (by decide +kernel) (fun T hT st h2 p1 p2 => ?_)
    cases List.mem_singleton.mp hT
    obtain ⟨w, v2, rfl, hw, hv2⟩ := st2 p1
    obtain ⟨w, rfl, w1, w2⟩ := hw
    obtain ⟨v2, rfl, u1, u2⟩ := hv2
    refine And.intro (fun _ => ?_) (fun z => absurd (i32eq.mpr (by omega)) z)
    exact K τ h2 hΦ (Or.inr (Or.inl (mvH (k := 201) (c := 1) rfl (fun _ _ => rfl) e (by decide) (by decide +kernel) p2)))

set_option maxRecDepth 100000 in
theorem g_law_check_S2 {l : Launch} {Ls : Nat} {xs : Nat → Int32} {c18 : Blk} {τ : Nat → List (Option Nat)} {h : PH} {j : Nat} (hΦ : Φ τ) (hj : 6 * j + 6 ≤ Ls) (hL : Ls ≤ 3072) (hh : all2 (gC ρ0 τ) HL_S2 h) (K : ∀ (τ2 : Nat → List (Option Nat)) (h2 : PH), Φ τ2 → HH τ2 h2 → c18 [some (.inr (some (.inr []))), some (.inr (some (.inl 0))), some (.inr (some (.inl 55))), some (.inl (f_add (nI (6 * j)) 6))] [] h2) : b2_L_law_1085 l Ls xs c18 [some (.inr (some (.inr []))), some (.inr (some (.inl 0))), some (.inr (some (.inl 55))), some (.inl (nI (6 * j)))] [] h := by
  refine And.intro (sv (k := 1) hj hL (by omega)) ?_
  refine callT (τ := τ) (tm := tmO [3, 14, 19, 24, 27, 29, 32, 35, 54, 39, 47, 40]) (A := [.inl (-2147483648, 2147483647), .inr (.inr (some (.inl 0)))]) (H := HL_S2) (Ts := [([.inl (-2147483648, 2147483647)], HL_S2)]) hΦ s_X11_check ⟨topA_ok _, rfl, trivial⟩ hh (by decide +kernel) (fun T hT st h1 q1 q2 => ?_)
  cases List.mem_singleton.mp hT
  obtain ⟨v, rfl, _⟩ := st1 q1
  refine And.intro (sv (k := 1) hj hL (by omega)) ?_
  refine callT (τ := τ) (tm := tmO [57, 58, 59, 60, 61, 62, 63, 65, 66, 67, 68, 69, 70, 71, 72, 73, 74, 75, 76, 77, 78, 79, 80, 81, 82, 83, 84, 85, 86]) (A := [.inl (-2147483648, 2147483647), .inr (.inr (some (.inl 55)))]) (H := HL_S2) (Ts := [([.inl (-2147483648, 2147483647)], HL_S2)]) hΦ s_X12_check ⟨topA_ok _, rfl, trivial⟩ q2 (by decide +kernel) (fun T hT st h2 q3 q4 => ?_)
  cases List.mem_singleton.mp hT
  obtain ⟨w, rfl, _⟩ := st1 q3
  exact K τ h2 hΦ (Or.inr (Or.inl q4))

set_option maxRecDepth 100000 in
theorem g_law_count_S2 {l : Launch} {Ls : Nat} {xs : Nat → Int32} {c18 : Blk} {τ : Nat → List (Option Nat)} {h : PH} {j : Nat} (hΦ : Φ τ) (hj : 6 * j + 6 ≤ Ls) (hL : Ls ≤ 3072) (hh : all2 (gC ρ0 τ) HL_S2 h) (K : ∀ (τ2 : Nat → List (Option Nat)) (h2 : PH), Φ τ2 → HH τ2 h2 → c18 [some (.inr (some (.inr []))), some (.inr (some (.inl 0))), some (.inr (some (.inl 55))), some (.inl (f_add (nI (6 * j)) 6))] [] h2) : b2_L_law_1108 l Ls xs c18 [some (.inr (some (.inr []))), some (.inr (some (.inl 0))), some (.inr (some (.inl 55))), some (.inl (nI (6 * j)))] [] h := by
  refine And.intro (sv (k := 1) hj hL (by omega)) ?_
  refine callT (τ := τ) (tm := tmO [14, 19, 24, 27, 29, 32, 35, 54, 39, 40]) (A := [.inl (-2147483648, 2147483647), .inr (.inr (some (.inl 0)))]) (H := HL_S2) (Ts := [([.inl (-2147483648, 2147483647)], HL_S2)]) hΦ s_X11_count ⟨topA_ok _, rfl, trivial⟩ hh (by decide +kernel) (fun T hT st h1 q1 q2 => ?_)
  cases List.mem_singleton.mp hT
  obtain ⟨v, rfl, _⟩ := st1 q1
  refine And.intro (sv (k := 1) hj hL (by omega)) ?_
  refine callT (τ := τ) (tm := tmO [57, 58, 60, 61, 63, 64, 65, 66, 67, 68, 69, 70, 71, 72, 73, 74, 75, 76, 77, 78, 79, 80, 81, 82, 83, 84, 85, 86]) (A := [.inl (-2147483648, 2147483647), .inr (.inr (some (.inl 55)))]) (H := HL_S2) (Ts := [([.inl (-2147483648, 2147483647)], HL_S2)]) hΦ s_X12_count ⟨topA_ok _, rfl, trivial⟩ q2 (by decide +kernel) (fun T hT st h2 q3 q4 => ?_)
  cases List.mem_singleton.mp hT
  obtain ⟨w, rfl, _⟩ := st1 q3
  exact K τ h2 hΦ (Or.inr (Or.inl q4))

set_option maxRecDepth 100000 in
theorem g_law_mint_R2 {l : Launch} {Ls : Nat} {xs : Nat → Int32} {c18 : Blk} {τ : Nat → List (Option Nat)} {h : PH} {j : Nat} (hΦ : Φ τ) (hj : 6 * j + 6 ≤ Ls) (hL : Ls ≤ 3072) (hh : all2 (gC ρ0 τ) HL_R2 h) (K : ∀ (τ2 : Nat → List (Option Nat)) (h2 : PH), Φ τ2 → HH τ2 h2 → c18 [some (.inr (some (.inr []))), some (.inr (some (.inl 0))), some (.inr (some (.inl 55))), some (.inl (f_add (nI (6 * j)) 6))] [] h2) : b2_L_law_164 l Ls xs c18 [some (.inr (some (.inr []))), some (.inr (some (.inl 0))), some (.inr (some (.inl 55))), some (.inl (nI (6 * j)))] [] h := by
  refine And.intro (sv (k := 1) hj hL (by omega)) ?_
  refine And.intro (sv (k := 2) hj hL (by omega)) ?_
  refine And.intro (sv (k := 3) hj hL (by omega)) ?_
  refine callT (τ := τ) (tm := tmO [1, 9, 14, 19, 24, 27, 29, 32, 35, 54, 39, 47, 40]) (A := [.inl (-2147483648, 2147483647), .inl (-2147483648, 2147483647), .inl (-2147483648, 2147483647), .inr (.inr (some (.inl 0)))]) (H := HL_R2) (Ts := [([.inl (-2147483648, 2147483647)], HL_R2)]) hΦ s_X11_mint ⟨topA_ok _, topA_ok _, topA_ok _, rfl, trivial⟩ hh (by decide +kernel) (fun T hT st h1 q1 q2 => ?_)
  cases List.mem_singleton.mp hT
  obtain ⟨v, rfl, _⟩ := st1 q1
  refine And.intro (sv (k := 1) hj hL (by omega)) ?_
  refine And.intro (sv (k := 2) hj hL (by omega)) ?_
  refine And.intro (sv (k := 3) hj hL (by omega)) ?_
  refine callT (τ := τ) (tm := tmO [56, 57, 58, 60, 61, 62, 63, 64, 65, 66, 67, 68, 69, 70, 71, 72, 73, 74, 75, 76, 77, 78, 79, 80, 81, 82, 83, 84, 85, 86]) (A := [.inl (-2147483648, 2147483647), .inl (-2147483648, 2147483647), .inl (-2147483648, 2147483647), .inr (.inr (some (.inl 55)))]) (H := HL_R2) (Ts := [([.inl (-2147483648, 2147483647)], HL_R2)]) hΦ s_X12_mint ⟨topA_ok _, topA_ok _, topA_ok _, rfl, trivial⟩ q2 (by decide +kernel) (fun T hT st h2 q3 q4 => ?_)
  cases List.mem_singleton.mp hT
  obtain ⟨w, rfl, _⟩ := st1 q3
  exact K τ h2 hΦ (Or.inr (Or.inr q4))

set_option maxRecDepth 100000 in
theorem g_law_feed_R2 {l : Launch} {Ls : Nat} {xs : Nat → Int32} {c18 : Blk} {τ : Nat → List (Option Nat)} {h : PH} {j : Nat} (hΦ : Φ τ) (hj : 6 * j + 6 ≤ Ls) (hL : Ls ≤ 3072) (hh : all2 (gC ρ0 τ) HL_R2 h) (K : ∀ (τ2 : Nat → List (Option Nat)) (h2 : PH), Φ τ2 → HH τ2 h2 → c18 [some (.inr (some (.inr []))), some (.inr (some (.inl 0))), some (.inr (some (.inl 55))), some (.inl (f_add (nI (6 * j)) 6))] [] h2) : b2_L_law_207 l Ls xs c18 [some (.inr (some (.inr []))), some (.inr (some (.inl 0))), some (.inr (some (.inl 55))), some (.inl (nI (6 * j)))] [] h := by
  refine And.intro (sv (k := 1) hj hL (by omega)) ?_
  refine And.intro (sv (k := 2) hj hL (by omega)) ?_
  refine And.intro (sv (k := 3) hj hL (by omega)) ?_
  refine And.intro (sv (k := 4) hj hL (by omega)) ?_
  refine And.intro (sv (k := 5) hj hL (by omega)) ?_
  refine callT (τ := τ) (tm := tmO [3, 9, 14, 19, 24, 27, 29, 32, 35, 54, 39, 47, 40]) (A := [.inl (-2147483648, 2147483647), .inl (-2147483648, 2147483647), .inl (-2147483648, 2147483647), .inl (-2147483648, 2147483647), .inl (-2147483648, 2147483647), .inr (.inr (some (.inl 0)))]) (H := HL_R2) (Ts := [([.inl (-2147483648, 2147483647)], HL_R2)]) hΦ s_X11_feed ⟨topA_ok _, topA_ok _, topA_ok _, topA_ok _, topA_ok _, rfl, trivial⟩ hh (by decide +kernel) (fun T hT st h1 q1 q2 => ?_)
  cases List.mem_singleton.mp hT
  obtain ⟨v, rfl, _⟩ := st1 q1
  refine And.intro (sv (k := 1) hj hL (by omega)) ?_
  refine And.intro (sv (k := 2) hj hL (by omega)) ?_
  refine And.intro (sv (k := 3) hj hL (by omega)) ?_
  refine And.intro (sv (k := 4) hj hL (by omega)) ?_
  refine And.intro (sv (k := 5) hj hL (by omega)) ?_
  refine callT (τ := τ) (tm := tmO [56, 57, 58, 59, 60, 61, 62, 63, 65, 66, 67, 68, 69, 70, 71, 72, 73, 74, 75, 76, 77, 78, 79, 80, 81, 82, 83, 84, 85, 86]) (A := [.inl (-2147483648, 2147483647), .inl (-2147483648, 2147483647), .inl (-2147483648, 2147483647), .inl (-2147483648, 2147483647), .inl (-2147483648, 2147483647), .inr (.inr (some (.inl 55)))]) (H := HL_R2) (Ts := [([.inl (-2147483648, 2147483647)], HL_R2)]) hΦ s_X12_feed ⟨topA_ok _, topA_ok _, topA_ok _, topA_ok _, topA_ok _, rfl, trivial⟩ q2 (by decide +kernel) (fun T hT st h2 q3 q4 => ?_)
  cases List.mem_singleton.mp hT
  obtain ⟨w, rfl, _⟩ := st1 q3
  exact K τ h2 hΦ (Or.inr (Or.inr q4))

set_option maxRecDepth 100000 in
theorem g_law_law_R2 {l : Launch} {Ls : Nat} {xs : Nat → Int32} {c18 : Blk} {τ : Nat → List (Option Nat)} {h : PH} {j : Nat} (hΦ : Φ τ) (hj : 6 * j + 6 ≤ Ls) (hL : Ls ≤ 3072) (hh : all2 (gC ρ0 τ) HL_R2 h) (K : ∀ (τ2 : Nat → List (Option Nat)) (h2 : PH), Φ τ2 → HH τ2 h2 → c18 [some (.inr (some (.inr []))), some (.inr (some (.inl 0))), some (.inr (some (.inl 55))), some (.inl (f_add (nI (6 * j)) 6))] [] h2) : b2_L_law_270 l Ls xs c18 [some (.inr (some (.inr []))), some (.inr (some (.inl 0))), some (.inr (some (.inl 55))), some (.inl (nI (6 * j)))] [] h := by
  refine And.intro (sv (k := 1) hj hL (by omega)) ?_
  refine callT (τ := τ) (tm := tmO [3, 9, 14, 19, 24, 27, 29, 32, 35, 39, 47]) (A := [.inl (-2147483648, 2147483647), .inr (.inr (some (.inl 0)))]) (H := HL_R2) (Ts := [([.inl (-2147483648, 2147483647)], HL_S1), ([.inl (-2147483648, 2147483647)], HL_R1), ([.inl (-2147483648, 2147483647)], HL_S2), ([.inl (-2147483648, 2147483647)], HL_R2)]) hΦ s_X11_law_R ⟨topA_ok _, rfl, trivial⟩ hh (by decide +kernel) (fun T hT st h1 q1 q2 => ?_)
  rcases List.mem_cons.mp hT with rfl | hT
  · obtain ⟨v, rfl, _⟩ := st1 q1
    refine And.intro (sv (k := 1) hj hL (by omega)) ?_
    refine callL (τ := τ) (tm := tmO [56, 57, 58, 59, 60, 61, 62, 63, 76, 77, 78, 79, 80, 81, 82, 83, 84, 85, 86]) (A := [.inl (-2147483648, 2147483647), .inr (.inr (some (.inl 55)))]) (as := [.inr (.inr (some (.inl 55))), .inl (-2147483648, 2147483647)]) (H := HL_S1) (H2 := HL_S1) hΦ s_X12_law ⟨topA_ok _, rfl, trivial⟩ q2 rfl (by decide +kernel) (by decide +kernel) (by decide +kernel) (by decide +kernel) (fun τ2 p2 p3 y h2 q3 => ?_)
    exact K τ2 h2 p2 (Or.inl (Or.inl q3))
  rcases List.mem_cons.mp hT with rfl | hT
  · obtain ⟨v, rfl, _⟩ := st1 q1
    refine And.intro (sv (k := 1) hj hL (by omega)) ?_
    refine callL (τ := τ) (tm := tmO [56, 57, 58, 59, 60, 61, 62, 63, 76, 77, 78, 79, 80, 81, 82, 83, 84, 85, 86]) (A := [.inl (-2147483648, 2147483647), .inr (.inr (some (.inl 55)))]) (as := [.inr (.inr (some (.inl 55))), .inl (-2147483648, 2147483647)]) (H := HL_R1) (H2 := HL_R1) hΦ s_X12_law ⟨topA_ok _, rfl, trivial⟩ q2 rfl (by decide +kernel) (by decide +kernel) (by decide +kernel) (by decide +kernel) (fun τ2 p2 p3 y h2 q3 => ?_)
    exact K τ2 h2 p2 (Or.inl (Or.inr q3))
  rcases List.mem_cons.mp hT with rfl | hT
  · obtain ⟨v, rfl, _⟩ := st1 q1
    refine And.intro (sv (k := 1) hj hL (by omega)) ?_
    refine callL (τ := τ) (tm := tmO [56, 57, 58, 59, 60, 61, 62, 63, 76, 77, 78, 79, 80, 81, 82, 83, 84, 85, 86]) (A := [.inl (-2147483648, 2147483647), .inr (.inr (some (.inl 55)))]) (as := [.inr (.inr (some (.inl 55))), .inl (-2147483648, 2147483647)]) (H := HL_S2) (H2 := HL_S2) hΦ s_X12_law ⟨topA_ok _, rfl, trivial⟩ q2 rfl (by decide +kernel) (by decide +kernel) (by decide +kernel) (by decide +kernel) (fun τ2 p2 p3 y h2 q3 => ?_)
    exact K τ2 h2 p2 (Or.inr (Or.inl q3))
  cases List.mem_singleton.mp hT
  obtain ⟨v, rfl, _⟩ := st1 q1
  refine And.intro (sv (k := 1) hj hL (by omega)) ?_
  refine callL (τ := τ) (tm := tmO [56, 57, 58, 59, 60, 61, 62, 63, 76, 77, 78, 79, 80, 81, 82, 83, 84, 85, 86]) (A := [.inl (-2147483648, 2147483647), .inr (.inr (some (.inl 55)))]) (as := [.inr (.inr (some (.inl 55))), .inl (-2147483648, 2147483647)]) (H := HL_R2) (H2 := HL_R2) hΦ s_X12_law ⟨topA_ok _, rfl, trivial⟩ q2 rfl (by decide +kernel) (by decide +kernel) (by decide +kernel) (by decide +kernel) (fun τ2 p2 p3 y h2 q3 => ?_)
  exact K τ2 h2 p2 (Or.inr (Or.inr q3))

set_option maxRecDepth 100000 in
theorem g_law_sheet_R2 {l : Launch} {Ls : Nat} {xs : Nat → Int32} {c18 : Blk} {τ : Nat → List (Option Nat)} {h : PH} {j : Nat} (hΦ : Φ τ) (hj : 6 * j + 6 ≤ Ls) (hL : Ls ≤ 3072) (hh : all2 (gC ρ0 τ) HL_R2 h) (K : ∀ (τ2 : Nat → List (Option Nat)) (h2 : PH), Φ τ2 → HH τ2 h2 → c18 [some (.inr (some (.inr []))), some (.inr (some (.inl 0))), some (.inr (some (.inl 55))), some (.inl (f_add (nI (6 * j)) 6))] [] h2) : b2_L_law_293 l Ls xs c18 [some (.inr (some (.inr []))), some (.inr (some (.inl 0))), some (.inr (some (.inl 55))), some (.inl (nI (6 * j)))] [] h := by
  refine And.intro (sv (k := 1) hj hL (by omega)) ?_
  refine callT (τ := τ) (tm := tmO [14, 19, 24, 27, 29, 35, 54, 39, 47, 40]) (A := [.inl (-2147483648, 2147483647), .inr (.inr (some (.inl 0)))]) (H := HL_R2) (Ts := [([.inl (-2147483648, 2147483647)], HL_R2)]) hΦ s_X11_sheet ⟨topA_ok _, rfl, trivial⟩ hh (by decide +kernel) (fun T hT st h1 q1 q2 => ?_)
  cases List.mem_singleton.mp hT
  obtain ⟨v, rfl, _⟩ := st1 q1
  refine And.intro (sv (k := 1) hj hL (by omega)) ?_
  refine callT (τ := τ) (tm := tmO [57, 58, 59, 62, 63, 65, 66, 67, 68, 69, 70, 71, 72, 73, 74, 75, 76, 77, 82, 83, 84, 85, 86]) (A := [.inl (-2147483648, 2147483647), .inr (.inr (some (.inl 55)))]) (H := HL_R2) (Ts := [([.inl (-2147483648, 2147483647)], HL_R2)]) hΦ s_X12_sheet ⟨topA_ok _, rfl, trivial⟩ q2 (by decide +kernel) (fun T hT st h2 q3 q4 => ?_)
  cases List.mem_singleton.mp hT
  obtain ⟨w, rfl, _⟩ := st1 q3
  exact K τ h2 hΦ (Or.inr (Or.inr q4))

set_option maxRecDepth 100000 in
theorem g_law_post_R2 {l : Launch} {Ls : Nat} {xs : Nat → Int32} {c18 : Blk} {τ : Nat → List (Option Nat)} {h : PH} {j : Nat} (hΦ : Φ τ) (hj : 6 * j + 6 ≤ Ls) (hL : Ls ≤ 3072) (hh : all2 (gC ρ0 τ) HL_R2 h) (K : ∀ (τ2 : Nat → List (Option Nat)) (h2 : PH), Φ τ2 → HH τ2 h2 → c18 [some (.inr (some (.inr []))), some (.inr (some (.inl 0))), some (.inr (some (.inl 55))), some (.inl (f_add (nI (6 * j)) 6))] [] h2) : b2_L_law_316 l Ls xs c18 [some (.inr (some (.inr []))), some (.inr (some (.inl 0))), some (.inr (some (.inl 55))), some (.inl (nI (6 * j)))] [] h := by
  refine And.intro (sv (k := 1) hj hL (by omega)) ?_
  refine callT (τ := τ) (tm := tmO [14, 19, 24, 27, 29, 32, 54, 39, 47, 40]) (A := [.inl (-2147483648, 2147483647), .inr (.inr (some (.inl 0)))]) (H := HL_R2) (Ts := [([.inl (-2147483648, 2147483647)], HL_R2)]) hΦ s_X11_post ⟨topA_ok _, rfl, trivial⟩ hh (by decide +kernel) (fun T hT st h1 q1 q2 => ?_)
  cases List.mem_singleton.mp hT
  obtain ⟨v, rfl, _⟩ := st1 q1
  refine And.intro (sv (k := 1) hj hL (by omega)) ?_
  refine callT (τ := τ) (tm := tmO [58, 59, 60, 61, 65, 66, 67, 68, 69, 70, 71, 72, 73, 74, 75, 76, 77, 78, 79, 80, 81, 82, 83, 84, 85, 86]) (A := [.inl (-2147483648, 2147483647), .inr (.inr (some (.inl 55)))]) (H := HL_R2) (Ts := [([.inl (-2147483648, 2147483647)], HL_R2)]) hΦ s_X12_post ⟨topA_ok _, rfl, trivial⟩ q2 (by decide +kernel) (fun T hT st h2 q3 q4 => ?_)
  cases List.mem_singleton.mp hT
  obtain ⟨w, rfl, _⟩ := st1 q3
  exact K τ h2 hΦ (Or.inr (Or.inr q4))

set_option maxRecDepth 100000 in
theorem g_law_days_R2 {l : Launch} {Ls : Nat} {xs : Nat → Int32} {c18 : Blk} {τ : Nat → List (Option Nat)} {h : PH} {j : Nat} (hΦ : Φ τ) (hj : 6 * j + 6 ≤ Ls) (hL : Ls ≤ 3072) (hh : all2 (gC ρ0 τ) HL_R2 h) (K : ∀ (τ2 : Nat → List (Option Nat)) (h2 : PH), Φ τ2 → HH τ2 h2 → c18 [some (.inr (some (.inr []))), some (.inr (some (.inl 0))), some (.inr (some (.inl 55))), some (.inl (f_add (nI (6 * j)) 6))] [] h2) : b2_L_law_339 l Ls xs c18 [some (.inr (some (.inr []))), some (.inr (some (.inl 0))), some (.inr (some (.inl 55))), some (.inl (nI (6 * j)))] [] h := by
  refine And.intro (sv (k := 1) hj hL (by omega)) ?_
  refine callT (τ := τ) (tm := tmO [1, 14, 19, 27, 29, 32, 35, 54, 39, 40]) (A := [.inl (-2147483648, 2147483647), .inr (.inr (some (.inl 0)))]) (H := HL_R2) (Ts := [([.inl (-2147483648, 2147483647)], HL_R2)]) hΦ s_X11_days ⟨topA_ok _, rfl, trivial⟩ hh (by decide +kernel) (fun T hT st h1 q1 q2 => ?_)
  cases List.mem_singleton.mp hT
  obtain ⟨v, rfl, _⟩ := st1 q1
  refine And.intro (sv (k := 1) hj hL (by omega)) ?_
  refine callT (τ := τ) (tm := tmO [57, 58, 63, 64, 65, 66, 67, 68, 69, 70, 78, 79, 80, 81, 83, 84, 85, 86]) (A := [.inl (-2147483648, 2147483647), .inr (.inr (some (.inl 55)))]) (H := HL_R2) (Ts := [([.inl (-2147483648, 2147483647)], HL_R2)]) hΦ s_X12_days ⟨topA_ok _, rfl, trivial⟩ q2 (by decide +kernel) (fun T hT st h2 q3 q4 => ?_)
  cases List.mem_singleton.mp hT
  obtain ⟨w, rfl, _⟩ := st1 q3
  exact K τ h2 hΦ (Or.inr (Or.inr q4))

set_option maxRecDepth 100000 in
theorem g_law_tried_R2 {l : Launch} {Ls : Nat} {xs : Nat → Int32} {c18 : Blk} {τ : Nat → List (Option Nat)} {h : PH} {j : Nat} (hΦ : Φ τ) (hj : 6 * j + 6 ≤ Ls) (hL : Ls ≤ 3072) (hh : all2 (gC ρ0 τ) HL_R2 h) (K : ∀ (τ2 : Nat → List (Option Nat)) (h2 : PH), Φ τ2 → HH τ2 h2 → c18 [some (.inr (some (.inr []))), some (.inr (some (.inl 0))), some (.inr (some (.inl 55))), some (.inl (f_add (nI (6 * j)) 6))] [] h2) : b2_L_law_362 l Ls xs c18 [some (.inr (some (.inr []))), some (.inr (some (.inl 0))), some (.inr (some (.inl 55))), some (.inl (nI (6 * j)))] [] h := by
  refine And.intro (sv (k := 1) hj hL (by omega)) ?_
  refine And.intro (sv (k := 2) hj hL (by omega)) ?_
  refine callT (τ := τ) (tm := tmO [1, 14, 27, 29, 32, 35, 54, 39, 40]) (A := [.inl (-2147483648, 2147483647), .inl (-2147483648, 2147483647), .inr (.inr (some (.inl 0)))]) (H := HL_R2) (Ts := [([.inl (-2147483648, 2147483647)], HL_R2)]) hΦ s_X11_tried ⟨topA_ok _, topA_ok _, rfl, trivial⟩ hh (by decide +kernel) (fun T hT st h1 q1 q2 => ?_)
  cases List.mem_singleton.mp hT
  obtain ⟨v, rfl, _⟩ := st1 q1
  refine And.intro (sv (k := 1) hj hL (by omega)) ?_
  refine And.intro (sv (k := 2) hj hL (by omega)) ?_
  refine callT (τ := τ) (tm := tmO [58, 63, 64, 65, 66, 67, 68, 69, 70, 78, 79, 80, 81, 83, 84, 85, 86]) (A := [.inl (-2147483648, 2147483647), .inl (-2147483648, 2147483647), .inr (.inr (some (.inl 55)))]) (H := HL_R2) (Ts := [([.inl (-2147483648, 2147483647)], HL_R2)]) hΦ s_X12_tried ⟨topA_ok _, topA_ok _, rfl, trivial⟩ q2 (by decide +kernel) (fun T hT st h2 q3 q4 => ?_)
  cases List.mem_singleton.mp hT
  obtain ⟨w, rfl, _⟩ := st1 q3
  exact K τ h2 hΦ (Or.inr (Or.inr q4))

set_option maxRecDepth 100000 in
theorem g_law_letterIs_R2 {l : Launch} {Ls : Nat} {xs : Nat → Int32} {c18 : Blk} {τ : Nat → List (Option Nat)} {h : PH} {j : Nat} (hΦ : Φ τ) (hj : 6 * j + 6 ≤ Ls) (hL : Ls ≤ 3072) (hh : all2 (gC ρ0 τ) HL_R2 h) (K : ∀ (τ2 : Nat → List (Option Nat)) (h2 : PH), Φ τ2 → HH τ2 h2 → c18 [some (.inr (some (.inr []))), some (.inr (some (.inl 0))), some (.inr (some (.inl 55))), some (.inl (f_add (nI (6 * j)) 6))] [] h2) : b2_L_law_395 l Ls xs c18 [some (.inr (some (.inr []))), some (.inr (some (.inl 0))), some (.inr (some (.inl 55))), some (.inl (nI (6 * j)))] [] h := by
  refine And.intro (sv (k := 1) hj hL (by omega)) ?_
  refine And.intro (sv (k := 2) hj hL (by omega)) ?_
  refine callT (τ := τ) (tm := tmO [1, 14, 19, 24, 27, 29, 32, 35, 54, 39, 47, 40]) (A := [.inl (-2147483648, 2147483647), .inl (-2147483648, 2147483647), .inr (.inr (some (.inl 0)))]) (H := HL_R2) (Ts := [([.inl (-2147483648, 2147483647)], HL_R2)]) hΦ s_X11_letterIs ⟨topA_ok _, topA_ok _, rfl, trivial⟩ hh (by decide +kernel) (fun T hT st h1 q1 q2 => ?_)
  cases List.mem_singleton.mp hT
  obtain ⟨v, rfl, _⟩ := st1 q1
  refine And.intro (sv (k := 1) hj hL (by omega)) ?_
  refine And.intro (sv (k := 2) hj hL (by omega)) ?_
  refine callT (τ := τ) (tm := tmO [57, 58, 62, 63, 64, 65, 66, 67, 68, 69, 70, 71, 72, 73, 74, 75, 76, 77, 78, 79, 80, 81, 82, 83, 84, 85, 86]) (A := [.inl (-2147483648, 2147483647), .inl (-2147483648, 2147483647), .inr (.inr (some (.inl 55)))]) (H := HL_R2) (Ts := [([.inl (-2147483648, 2147483647)], HL_R2)]) hΦ s_X12_letterIs ⟨topA_ok _, topA_ok _, rfl, trivial⟩ q2 (by decide +kernel) (fun T hT st h2 q3 q4 => ?_)
  cases List.mem_singleton.mp hT
  obtain ⟨w, rfl, _⟩ := st1 q3
  exact K τ h2 hΦ (Or.inr (Or.inr q4))

set_option maxRecDepth 100000 in
theorem g_law_stampIs_R2 {l : Launch} {Ls : Nat} {xs : Nat → Int32} {c18 : Blk} {τ : Nat → List (Option Nat)} {h : PH} {j : Nat} (hΦ : Φ τ) (hj : 6 * j + 6 ≤ Ls) (hL : Ls ≤ 3072) (hh : all2 (gC ρ0 τ) HL_R2 h) (K : ∀ (τ2 : Nat → List (Option Nat)) (h2 : PH), Φ τ2 → HH τ2 h2 → c18 [some (.inr (some (.inr []))), some (.inr (some (.inl 0))), some (.inr (some (.inl 55))), some (.inl (f_add (nI (6 * j)) 6))] [] h2) : b2_L_law_428 l Ls xs c18 [some (.inr (some (.inr []))), some (.inr (some (.inl 0))), some (.inr (some (.inl 55))), some (.inl (nI (6 * j)))] [] h := by
  refine And.intro (sv (k := 1) hj hL (by omega)) ?_
  refine And.intro (sv (k := 2) hj hL (by omega)) ?_
  refine callT (τ := τ) (tm := tmO [1, 14, 19, 24, 27, 29, 32, 35, 54, 39, 47, 40]) (A := [.inl (-2147483648, 2147483647), .inl (-2147483648, 2147483647), .inr (.inr (some (.inl 0)))]) (H := HL_R2) (Ts := [([.inl (-2147483648, 2147483647)], HL_R2)]) hΦ s_X11_stampIs ⟨topA_ok _, topA_ok _, rfl, trivial⟩ hh (by decide +kernel) (fun T hT st h1 q1 q2 => ?_)
  cases List.mem_singleton.mp hT
  obtain ⟨v, rfl, _⟩ := st1 q1
  refine And.intro (sv (k := 1) hj hL (by omega)) ?_
  refine And.intro (sv (k := 2) hj hL (by omega)) ?_
  refine callT (τ := τ) (tm := tmO [57, 58, 59, 62, 63, 64, 65, 66, 67, 68, 69, 70, 71, 72, 73, 74, 75, 76, 77, 78, 79, 80, 81, 82, 83, 84, 85, 86]) (A := [.inl (-2147483648, 2147483647), .inl (-2147483648, 2147483647), .inr (.inr (some (.inl 55)))]) (H := HL_R2) (Ts := [([.inl (-2147483648, 2147483647)], HL_R2)]) hΦ s_X12_stampIs ⟨topA_ok _, topA_ok _, rfl, trivial⟩ q2 (by decide +kernel) (fun T hT st h2 q3 q4 => ?_)
  cases List.mem_singleton.mp hT
  obtain ⟨w, rfl, _⟩ := st1 q3
  exact K τ h2 hΦ (Or.inr (Or.inr q4))

set_option maxRecDepth 100000 in
theorem g_law_comes_R2 {l : Launch} {Ls : Nat} {xs : Nat → Int32} {c18 : Blk} {τ : Nat → List (Option Nat)} {h : PH} {j : Nat} (hΦ : Φ τ) (hj : 6 * j + 6 ≤ Ls) (hL : Ls ≤ 3072) (hh : all2 (gC ρ0 τ) HL_R2 h) (K : ∀ (τ2 : Nat → List (Option Nat)) (h2 : PH), Φ τ2 → HH τ2 h2 → c18 [some (.inr (some (.inr []))), some (.inr (some (.inl 0))), some (.inr (some (.inl 55))), some (.inl (f_add (nI (6 * j)) 6))] [] h2) : b2_L_law_461 l Ls xs c18 [some (.inr (some (.inr []))), some (.inr (some (.inl 0))), some (.inr (some (.inl 55))), some (.inl (nI (6 * j)))] [] h := by
  refine And.intro (sv (k := 1) hj hL (by omega)) ?_
  refine And.intro (sv (k := 2) hj hL (by omega)) ?_
  refine And.intro (sv (k := 3) hj hL (by omega)) ?_
  refine callT (τ := τ) (tm := tmO [1, 14, 27, 29, 32, 35, 54, 39, 40]) (A := [.inl (-2147483648, 2147483647), .inl (-2147483648, 2147483647), .inl (-2147483648, 2147483647), .inr (.inr (some (.inl 0)))]) (H := HL_R2) (Ts := [([.inl (-2147483648, 2147483647)], HL_R2)]) hΦ s_X11_comes ⟨topA_ok _, topA_ok _, topA_ok _, rfl, trivial⟩ hh (by decide +kernel) (fun T hT st h1 q1 q2 => ?_)
  cases List.mem_singleton.mp hT
  obtain ⟨v, rfl, _⟩ := st1 q1
  refine And.intro (sv (k := 1) hj hL (by omega)) ?_
  refine And.intro (sv (k := 2) hj hL (by omega)) ?_
  refine And.intro (sv (k := 3) hj hL (by omega)) ?_
  refine callT (τ := τ) (tm := tmO [58, 63, 64, 65, 66, 67, 68, 69, 70, 78, 79, 80, 81, 83, 84, 85, 86]) (A := [.inl (-2147483648, 2147483647), .inl (-2147483648, 2147483647), .inl (-2147483648, 2147483647), .inr (.inr (some (.inl 55)))]) (H := HL_R2) (Ts := [([.inl (-2147483648, 2147483647)], HL_R2)]) hΦ s_X12_comes ⟨topA_ok _, topA_ok _, topA_ok _, rfl, trivial⟩ q2 (by decide +kernel) (fun T hT st h2 q3 q4 => ?_)
  cases List.mem_singleton.mp hT
  obtain ⟨w, rfl, _⟩ := st1 q3
  exact K τ h2 hΦ (Or.inr (Or.inr q4))

set_option maxRecDepth 100000 in
theorem g_law_atRest_R2 {l : Launch} {Ls : Nat} {xs : Nat → Int32} {c18 : Blk} {τ : Nat → List (Option Nat)} {h : PH} {j : Nat} (hΦ : Φ τ) (hj : 6 * j + 6 ≤ Ls) (hL : Ls ≤ 3072) (hh : all2 (gC ρ0 τ) HL_R2 h) (K : ∀ (τ2 : Nat → List (Option Nat)) (h2 : PH), Φ τ2 → HH τ2 h2 → c18 [some (.inr (some (.inr []))), some (.inr (some (.inl 0))), some (.inr (some (.inl 55))), some (.inl (f_add (nI (6 * j)) 6))] [] h2) : b2_L_law_504 l Ls xs c18 [some (.inr (some (.inr []))), some (.inr (some (.inl 0))), some (.inr (some (.inl 55))), some (.inl (nI (6 * j)))] [] h := by
  refine And.intro (sv (k := 1) hj hL (by omega)) ?_
  refine And.intro (sv (k := 2) hj hL (by omega)) ?_
  refine callT (τ := τ) (tm := tmO [1, 14, 27, 29, 32, 35, 54, 39, 40]) (A := [.inl (-2147483648, 2147483647), .inl (-2147483648, 2147483647), .inr (.inr (some (.inl 0)))]) (H := HL_R2) (Ts := [([.inl (-2147483648, 2147483647)], HL_R2)]) hΦ s_X11_atRest ⟨topA_ok _, topA_ok _, rfl, trivial⟩ hh (by decide +kernel) (fun T hT st h1 q1 q2 => ?_)
  cases List.mem_singleton.mp hT
  obtain ⟨v, rfl, _⟩ := st1 q1
  refine And.intro (sv (k := 1) hj hL (by omega)) ?_
  refine And.intro (sv (k := 2) hj hL (by omega)) ?_
  refine callT (τ := τ) (tm := tmO [58, 63, 64, 65, 66, 67, 68, 69, 70, 78, 79, 80, 81, 83, 84, 85, 86]) (A := [.inl (-2147483648, 2147483647), .inl (-2147483648, 2147483647), .inr (.inr (some (.inl 55)))]) (H := HL_R2) (Ts := [([.inl (-2147483648, 2147483647)], HL_R2)]) hΦ s_X12_atRest ⟨topA_ok _, topA_ok _, rfl, trivial⟩ q2 (by decide +kernel) (fun T hT st h2 q3 q4 => ?_)
  cases List.mem_singleton.mp hT
  obtain ⟨w, rfl, _⟩ := st1 q3
  exact K τ h2 hΦ (Or.inr (Or.inr q4))

set_option maxRecDepth 100000 in
theorem g_law_meet_R2 {l : Launch} {Ls : Nat} {xs : Nat → Int32} {c18 : Blk} {τ : Nat → List (Option Nat)} {h : PH} {j : Nat} (hΦ : Φ τ) (hj : 6 * j + 6 ≤ Ls) (hL : Ls ≤ 3072) (hh : all2 (gC ρ0 τ) HL_R2 h) (K : ∀ (τ2 : Nat → List (Option Nat)) (h2 : PH), Φ τ2 → HH τ2 h2 → c18 [some (.inr (some (.inr []))), some (.inr (some (.inl 0))), some (.inr (some (.inl 55))), some (.inl (f_add (nI (6 * j)) 6))] [] h2) : b2_L_law_537 l Ls xs c18 [some (.inr (some (.inr []))), some (.inr (some (.inl 0))), some (.inr (some (.inl 55))), some (.inl (nI (6 * j)))] [] h := by
  refine And.intro (sv (k := 1) hj hL (by omega)) ?_
  refine And.intro (sv (k := 2) hj hL (by omega)) ?_
  refine And.intro (sv (k := 3) hj hL (by omega)) ?_
  refine callT (τ := τ) (tm := tmO [1, 14, 27, 29, 32, 35, 54, 39, 40]) (A := [.inl (-2147483648, 2147483647), .inl (-2147483648, 2147483647), .inl (-2147483648, 2147483647), .inr (.inr (some (.inl 0)))]) (H := HL_R2) (Ts := [([.inl (-2147483648, 2147483647)], HL_R2)]) hΦ s_X11_meet ⟨topA_ok _, topA_ok _, topA_ok _, rfl, trivial⟩ hh (by decide +kernel) (fun T hT st h1 q1 q2 => ?_)
  cases List.mem_singleton.mp hT
  obtain ⟨v, rfl, _⟩ := st1 q1
  refine And.intro (sv (k := 1) hj hL (by omega)) ?_
  refine And.intro (sv (k := 2) hj hL (by omega)) ?_
  refine And.intro (sv (k := 3) hj hL (by omega)) ?_
  refine callT (τ := τ) (tm := tmO [58, 63, 64, 65, 66, 67, 68, 69, 70, 78, 79, 80, 81, 83, 84, 85, 86]) (A := [.inl (-2147483648, 2147483647), .inl (-2147483648, 2147483647), .inl (-2147483648, 2147483647), .inr (.inr (some (.inl 55)))]) (H := HL_R2) (Ts := [([.inl (-2147483648, 2147483647)], HL_R2)]) hΦ s_X12_meet ⟨topA_ok _, topA_ok _, topA_ok _, rfl, trivial⟩ q2 (by decide +kernel) (fun T hT st h2 q3 q4 => ?_)
  cases List.mem_singleton.mp hT
  obtain ⟨w, rfl, _⟩ := st1 q3
  exact K τ h2 hΦ (Or.inr (Or.inr q4))

set_option maxRecDepth 100000 in
theorem g_law_again_R2 {l : Launch} {Ls : Nat} {xs : Nat → Int32} {c18 : Blk} {τ : Nat → List (Option Nat)} {h : PH} {j : Nat} (hΦ : Φ τ) (hj : 6 * j + 6 ≤ Ls) (hL : Ls ≤ 3072) (hh : all2 (gC ρ0 τ) HL_R2 h) (K : ∀ (τ2 : Nat → List (Option Nat)) (h2 : PH), Φ τ2 → HH τ2 h2 → c18 [some (.inr (some (.inr []))), some (.inr (some (.inl 0))), some (.inr (some (.inl 55))), some (.inl (f_add (nI (6 * j)) 6))] [] h2) : b2_L_law_580 l Ls xs c18 [some (.inr (some (.inr []))), some (.inr (some (.inl 0))), some (.inr (some (.inl 55))), some (.inl (nI (6 * j)))] [] h := by
  refine And.intro (sv (k := 1) hj hL (by omega)) ?_
  refine And.intro (sv (k := 2) hj hL (by omega)) ?_
  refine callT (τ := τ) (tm := tmO [1, 14, 27, 29, 32, 35, 54, 40]) (A := [.inl (-2147483648, 2147483647), .inl (-2147483648, 2147483647), .inr (.inr (some (.inl 0)))]) (H := HL_R2) (Ts := [([.inl (-2147483648, 2147483647)], HL_R2)]) hΦ s_X11_again ⟨topA_ok _, topA_ok _, rfl, trivial⟩ hh (by decide +kernel) (fun T hT st h1 q1 q2 => ?_)
  cases List.mem_singleton.mp hT
  obtain ⟨v, rfl, _⟩ := st1 q1
  refine And.intro (sv (k := 1) hj hL (by omega)) ?_
  refine And.intro (sv (k := 2) hj hL (by omega)) ?_
  refine callT (τ := τ) (tm := tmO [58, 63, 64, 65, 66, 67, 68, 69, 70, 78, 79, 80, 81, 84, 85, 86]) (A := [.inl (-2147483648, 2147483647), .inl (-2147483648, 2147483647), .inr (.inr (some (.inl 55)))]) (H := HL_R2) (Ts := [([.inl (-2147483648, 2147483647)], HL_R2)]) hΦ s_X12_again ⟨topA_ok _, topA_ok _, rfl, trivial⟩ q2 (by decide +kernel) (fun T hT st h2 q3 q4 => ?_)
  cases List.mem_singleton.mp hT
  obtain ⟨w, rfl, _⟩ := st1 q3
  exact K τ h2 hΦ (Or.inr (Or.inr q4))

set_option maxRecDepth 100000 in
theorem g_law_home_R2 {l : Launch} {Ls : Nat} {xs : Nat → Int32} {c18 : Blk} {τ : Nat → List (Option Nat)} {h : PH} {j : Nat} (hΦ : Φ τ) (hj : 6 * j + 6 ≤ Ls) (hL : Ls ≤ 3072) (hh : all2 (gC ρ0 τ) HL_R2 h) (K : ∀ (τ2 : Nat → List (Option Nat)) (h2 : PH), Φ τ2 → HH τ2 h2 → c18 [some (.inr (some (.inr []))), some (.inr (some (.inl 0))), some (.inr (some (.inl 55))), some (.inl (f_add (nI (6 * j)) 6))] [] h2) : b2_L_law_613 l Ls xs c18 [some (.inr (some (.inr []))), some (.inr (some (.inl 0))), some (.inr (some (.inl 55))), some (.inl (nI (6 * j)))] [] h := by
  refine And.intro (sv (k := 1) hj hL (by omega)) ?_
  refine And.intro (sv (k := 2) hj hL (by omega)) ?_
  refine callT (τ := τ) (tm := tmO [1, 14, 19, 24, 27, 29, 32, 35, 54, 39, 47, 40]) (A := [.inl (-2147483648, 2147483647), .inl (-2147483648, 2147483647), .inr (.inr (some (.inl 0)))]) (H := HL_R2) (Ts := [([.inl (-2147483648, 2147483647)], HL_R2)]) hΦ s_X11_home ⟨topA_ok _, topA_ok _, rfl, trivial⟩ hh (by decide +kernel) (fun T hT st h1 q1 q2 => ?_)
  cases List.mem_singleton.mp hT
  obtain ⟨v, rfl, _⟩ := st1 q1
  refine And.intro (sv (k := 1) hj hL (by omega)) ?_
  refine And.intro (sv (k := 2) hj hL (by omega)) ?_
  refine callT (τ := τ) (tm := tmO [57, 58, 59, 62, 63, 64, 65, 66, 67, 68, 69, 70, 71, 72, 73, 74, 75, 76, 77, 78, 79, 80, 81, 82, 83, 84, 85, 86]) (A := [.inl (-2147483648, 2147483647), .inl (-2147483648, 2147483647), .inr (.inr (some (.inl 55)))]) (H := HL_R2) (Ts := [([.inl (-2147483648, 2147483647)], HL_R2)]) hΦ s_X12_home ⟨topA_ok _, topA_ok _, rfl, trivial⟩ q2 (by decide +kernel) (fun T hT st h2 q3 q4 => ?_)
  cases List.mem_singleton.mp hT
  obtain ⟨w, rfl, _⟩ := st1 q3
  exact K τ h2 hΦ (Or.inr (Or.inr q4))

set_option maxRecDepth 100000 in
theorem g_law_lying_R2 {l : Launch} {Ls : Nat} {xs : Nat → Int32} {c18 : Blk} {τ : Nat → List (Option Nat)} {h : PH} {j : Nat} (hΦ : Φ τ) (hj : 6 * j + 6 ≤ Ls) (hL : Ls ≤ 3072) (hh : all2 (gC ρ0 τ) HL_R2 h) (K : ∀ (τ2 : Nat → List (Option Nat)) (h2 : PH), Φ τ2 → HH τ2 h2 → c18 [some (.inr (some (.inr []))), some (.inr (some (.inl 0))), some (.inr (some (.inl 55))), some (.inl (f_add (nI (6 * j)) 6))] [] h2) : b2_L_law_646 l Ls xs c18 [some (.inr (some (.inr []))), some (.inr (some (.inl 0))), some (.inr (some (.inl 55))), some (.inl (nI (6 * j)))] [] h := by
  refine And.intro (sv (k := 1) hj hL (by omega)) ?_
  refine callT (τ := τ) (tm := tmO [1, 3, 14, 19, 24, 27, 29, 32, 35, 54, 39, 47, 40]) (A := [.inl (-2147483648, 2147483647), .inr (.inr (some (.inl 0)))]) (H := HL_R2) (Ts := [([.inl (-2147483648, 2147483647)], HL_R2)]) hΦ s_X11_lying ⟨topA_ok _, rfl, trivial⟩ hh (by decide +kernel) (fun T hT st h1 q1 q2 => ?_)
  cases List.mem_singleton.mp hT
  obtain ⟨v, rfl, _⟩ := st1 q1
  refine And.intro (sv (k := 1) hj hL (by omega)) ?_
  refine callT (τ := τ) (tm := tmO [57, 58, 59, 60, 61, 62, 63, 64, 65, 66, 67, 68, 69, 70, 71, 72, 73, 74, 75, 76, 77, 78, 79, 80, 81, 82, 83, 84, 85, 86]) (A := [.inl (-2147483648, 2147483647), .inr (.inr (some (.inl 55)))]) (H := HL_R2) (Ts := [([.inl (-2147483648, 2147483647)], HL_R2)]) hΦ s_X12_lying ⟨topA_ok _, rfl, trivial⟩ q2 (by decide +kernel) (fun T hT st h2 q3 q4 => ?_)
  cases List.mem_singleton.mp hT
  obtain ⟨w, rfl, _⟩ := st1 q3
  exact K τ h2 hΦ (Or.inr (Or.inr q4))

set_option maxRecDepth 100000 in
theorem g_law_stamped_R2 {l : Launch} {Ls : Nat} {xs : Nat → Int32} {c18 : Blk} {τ : Nat → List (Option Nat)} {h : PH} {j : Nat} (hΦ : Φ τ) (hj : 6 * j + 6 ≤ Ls) (hL : Ls ≤ 3072) (hh : all2 (gC ρ0 τ) HL_R2 h) (K : ∀ (τ2 : Nat → List (Option Nat)) (h2 : PH), Φ τ2 → HH τ2 h2 → c18 [some (.inr (some (.inr []))), some (.inr (some (.inl 0))), some (.inr (some (.inl 55))), some (.inl (f_add (nI (6 * j)) 6))] [] h2) : b2_L_law_669 l Ls xs c18 [some (.inr (some (.inr []))), some (.inr (some (.inl 0))), some (.inr (some (.inl 55))), some (.inl (nI (6 * j)))] [] h := by
  refine And.intro (sv (k := 1) hj hL (by omega)) ?_
  refine And.intro (sv (k := 2) hj hL (by omega)) ?_
  refine And.intro (sv (k := 3) hj hL (by omega)) ?_
  refine And.intro (sv (k := 4) hj hL (by omega)) ?_
  refine And.intro (sv (k := 5) hj hL (by omega)) ?_
  refine callT (τ := τ) (tm := tmO [9, 14, 19, 24, 29, 32, 35, 54, 39, 47, 40]) (A := [.inl (-2147483648, 2147483647), .inl (-2147483648, 2147483647), .inl (-2147483648, 2147483647), .inl (-2147483648, 2147483647), .inl (-2147483648, 2147483647), .inr (.inr (some (.inl 0)))]) (H := HL_R2) (Ts := [([.inl (-2147483648, 2147483647)], HL_R2)]) hΦ s_X11_stamped ⟨topA_ok _, topA_ok _, topA_ok _, topA_ok _, topA_ok _, rfl, trivial⟩ hh (by decide +kernel) (fun T hT st h1 q1 q2 => ?_)
  cases List.mem_singleton.mp hT
  obtain ⟨v, rfl, _⟩ := st1 q1
  refine And.intro (sv (k := 1) hj hL (by omega)) ?_
  refine And.intro (sv (k := 2) hj hL (by omega)) ?_
  refine And.intro (sv (k := 3) hj hL (by omega)) ?_
  refine And.intro (sv (k := 4) hj hL (by omega)) ?_
  refine And.intro (sv (k := 5) hj hL (by omega)) ?_
  refine callT (τ := τ) (tm := tmO [56, 57, 58, 63, 65, 66, 67, 68, 69, 70, 71, 72, 73, 74, 75, 76, 77, 78, 79, 80, 81, 82, 83, 85, 86]) (A := [.inl (-2147483648, 2147483647), .inl (-2147483648, 2147483647), .inl (-2147483648, 2147483647), .inl (-2147483648, 2147483647), .inl (-2147483648, 2147483647), .inr (.inr (some (.inl 55)))]) (H := HL_R2) (Ts := [([.inl (-2147483648, 2147483647)], HL_R2)]) hΦ s_X12_stamped ⟨topA_ok _, topA_ok _, topA_ok _, topA_ok _, topA_ok _, rfl, trivial⟩ q2 (by decide +kernel) (fun T hT st h2 q3 q4 => ?_)
  cases List.mem_singleton.mp hT
  obtain ⟨w, rfl, _⟩ := st1 q3
  exact K τ h2 hΦ (Or.inr (Or.inr q4))

set_option maxRecDepth 100000 in
theorem g_law_hang_R2 {l : Launch} {Ls : Nat} {xs : Nat → Int32} {c18 : Blk} {τ : Nat → List (Option Nat)} {h : PH} {j : Nat} (hΦ : Φ τ) (hj : 6 * j + 6 ≤ Ls) (hL : Ls ≤ 3072) (hh : all2 (gC ρ0 τ) HL_R2 h) (K : ∀ (τ2 : Nat → List (Option Nat)) (h2 : PH), Φ τ2 → HH τ2 h2 → c18 [some (.inr (some (.inr []))), some (.inr (some (.inl 0))), some (.inr (some (.inl 55))), some (.inl (f_add (nI (6 * j)) 6))] [] h2) : b2_L_law_732 l Ls xs c18 [some (.inr (some (.inr []))), some (.inr (some (.inl 0))), some (.inr (some (.inl 55))), some (.inl (nI (6 * j)))] [] h := by
  refine And.intro (sv (k := 1) hj hL (by omega)) ?_
  refine And.intro (sv (k := 2) hj hL (by omega)) ?_
  refine And.intro (sv (k := 3) hj hL (by omega)) ?_
  refine callT (τ := τ) (tm := tmO [9, 14, 19, 24, 29, 32, 35, 54, 39, 47, 40]) (A := [.inl (-2147483648, 2147483647), .inl (-2147483648, 2147483647), .inl (-2147483648, 2147483647), .inr (.inr (some (.inl 0)))]) (H := HL_R2) (Ts := [([.inl (-2147483648, 2147483647)], HL_R2)]) hΦ s_X11_hang ⟨topA_ok _, topA_ok _, topA_ok _, rfl, trivial⟩ hh (by decide +kernel) (fun T hT st h1 q1 q2 => ?_)
  cases List.mem_singleton.mp hT
  obtain ⟨v, rfl, _⟩ := st1 q1
  refine And.intro (sv (k := 1) hj hL (by omega)) ?_
  refine And.intro (sv (k := 2) hj hL (by omega)) ?_
  refine And.intro (sv (k := 3) hj hL (by omega)) ?_
  refine callT (τ := τ) (tm := tmO [56, 57, 58, 62, 63, 65, 66, 67, 68, 69, 70, 71, 72, 73, 74, 75, 76, 77, 78, 79, 80, 81, 82, 83, 85, 86]) (A := [.inl (-2147483648, 2147483647), .inl (-2147483648, 2147483647), .inl (-2147483648, 2147483647), .inr (.inr (some (.inl 55)))]) (H := HL_R2) (Ts := [([.inl (-2147483648, 2147483647)], HL_R2)]) hΦ s_X12_hang ⟨topA_ok _, topA_ok _, topA_ok _, rfl, trivial⟩ q2 (by decide +kernel) (fun T hT st h2 q3 q4 => ?_)
  cases List.mem_singleton.mp hT
  obtain ⟨w, rfl, _⟩ := st1 q3
  exact K τ h2 hΦ (Or.inr (Or.inr q4))

set_option maxRecDepth 100000 in
theorem g_law_falseOnes_R2 {l : Launch} {Ls : Nat} {xs : Nat → Int32} {c18 : Blk} {τ : Nat → List (Option Nat)} {h : PH} {j : Nat} (hΦ : Φ τ) (hj : 6 * j + 6 ≤ Ls) (hL : Ls ≤ 3072) (hh : all2 (gC ρ0 τ) HL_R2 h) (K : ∀ (τ2 : Nat → List (Option Nat)) (h2 : PH), Φ τ2 → HH τ2 h2 → c18 [some (.inr (some (.inr []))), some (.inr (some (.inl 0))), some (.inr (some (.inl 55))), some (.inl (f_add (nI (6 * j)) 6))] [] h2) : b2_L_law_775 l Ls xs c18 [some (.inr (some (.inr []))), some (.inr (some (.inl 0))), some (.inr (some (.inl 55))), some (.inl (nI (6 * j)))] [] h := by
  refine And.intro (sv (k := 1) hj hL (by omega)) ?_
  refine And.intro (sv (k := 2) hj hL (by omega)) ?_
  refine And.intro (sv (k := 3) hj hL (by omega)) ?_
  refine And.intro (sv (k := 4) hj hL (by omega)) ?_
  refine And.intro (sv (k := 5) hj hL (by omega)) ?_
  refine callT (τ := τ) (tm := tmO [9, 14, 19, 24, 29, 32, 35, 54, 39, 47, 40]) (A := [.inl (-2147483648, 2147483647), .inl (-2147483648, 2147483647), .inl (-2147483648, 2147483647), .inl (-2147483648, 2147483647), .inl (-2147483648, 2147483647), .inr (.inr (some (.inl 0)))]) (H := HL_R2) (Ts := [([.inl (-2147483648, 2147483647)], HL_R2)]) hΦ s_X11_falseOnes ⟨topA_ok _, topA_ok _, topA_ok _, topA_ok _, topA_ok _, rfl, trivial⟩ hh (by decide +kernel) (fun T hT st h1 q1 q2 => ?_)
  cases List.mem_singleton.mp hT
  obtain ⟨v, rfl, _⟩ := st1 q1
  refine And.intro (sv (k := 1) hj hL (by omega)) ?_
  refine And.intro (sv (k := 2) hj hL (by omega)) ?_
  refine And.intro (sv (k := 3) hj hL (by omega)) ?_
  refine And.intro (sv (k := 4) hj hL (by omega)) ?_
  refine And.intro (sv (k := 5) hj hL (by omega)) ?_
  refine callT (τ := τ) (tm := tmO [56, 57, 58, 62, 63, 65, 66, 67, 68, 69, 70, 71, 72, 73, 74, 75, 76, 77, 78, 79, 80, 81, 82, 83, 85, 86]) (A := [.inl (-2147483648, 2147483647), .inl (-2147483648, 2147483647), .inl (-2147483648, 2147483647), .inl (-2147483648, 2147483647), .inl (-2147483648, 2147483647), .inr (.inr (some (.inl 55)))]) (H := HL_R2) (Ts := [([.inl (-2147483648, 2147483647)], HL_R2)]) hΦ s_X12_falseOnes ⟨topA_ok _, topA_ok _, topA_ok _, topA_ok _, topA_ok _, rfl, trivial⟩ q2 (by decide +kernel) (fun T hT st h2 q3 q4 => ?_)
  cases List.mem_singleton.mp hT
  obtain ⟨w, rfl, _⟩ := st1 q3
  exact K τ h2 hΦ (Or.inr (Or.inr q4))

set_option maxRecDepth 100000 in
theorem g_law_printed_R2 {l : Launch} {Ls : Nat} {xs : Nat → Int32} {c18 : Blk} {τ : Nat → List (Option Nat)} {h : PH} {j : Nat} (hΦ : Φ τ) (hj : 6 * j + 6 ≤ Ls) (hL : Ls ≤ 3072) (hh : all2 (gC ρ0 τ) HL_R2 h) (K : ∀ (τ2 : Nat → List (Option Nat)) (h2 : PH), Φ τ2 → HH τ2 h2 → c18 [some (.inr (some (.inr []))), some (.inr (some (.inl 0))), some (.inr (some (.inl 55))), some (.inl (f_add (nI (6 * j)) 6))] [] h2) : b2_L_law_838 l Ls xs c18 [some (.inr (some (.inr []))), some (.inr (some (.inl 0))), some (.inr (some (.inl 55))), some (.inl (nI (6 * j)))] [] h := by
  refine And.intro (sv (k := 1) hj hL (by omega)) ?_
  refine callT (τ := τ) (tm := tmO [9, 14, 19, 24, 27, 29, 32, 35, 54, 39, 47, 40]) (A := [.inl (-2147483648, 2147483647), .inr (.inr (some (.inl 0)))]) (H := HL_R2) (Ts := [([.inl (-2147483648, 2147483647)], HL_R2)]) hΦ s_X11_printed ⟨topA_ok _, rfl, trivial⟩ hh (by decide +kernel) (fun T hT st h1 q1 q2 => ?_)
  cases List.mem_singleton.mp hT
  obtain ⟨v, rfl, _⟩ := st1 q1
  refine And.intro (sv (k := 1) hj hL (by omega)) ?_
  refine callT (τ := τ) (tm := tmO [56, 57, 58, 60, 61, 62, 63, 65, 66, 67, 68, 69, 70, 71, 72, 73, 74, 75, 76, 77, 78, 79, 80, 81, 82, 83, 84, 85, 86]) (A := [.inl (-2147483648, 2147483647), .inr (.inr (some (.inl 55)))]) (H := HL_R2) (Ts := [([.inl (-2147483648, 2147483647)], HL_R2)]) hΦ s_X12_printed ⟨topA_ok _, rfl, trivial⟩ q2 (by decide +kernel) (fun T hT st h2 q3 q4 => ?_)
  cases List.mem_singleton.mp hT
  obtain ⟨w, rfl, _⟩ := st1 q3
  exact K τ h2 hΦ (Or.inr (Or.inr q4))

set_option maxRecDepth 100000 in
theorem g_law_ship_R2 {l : Launch} {Ls : Nat} {xs : Nat → Int32} {c18 : Blk} {τ : Nat → List (Option Nat)} {h : PH} {j : Nat} (hΦ : Φ τ) (hj : 6 * j + 6 ≤ Ls) (hL : Ls ≤ 3072) (hh : all2 (gC ρ0 τ) HL_R2 h) (K : ∀ (τ2 : Nat → List (Option Nat)) (h2 : PH), Φ τ2 → HH τ2 h2 → c18 [some (.inr (some (.inr []))), some (.inr (some (.inl 0))), some (.inr (some (.inl 55))), some (.inl (f_add (nI (6 * j)) 6))] [] h2) : b2_L_law_861 l Ls xs c18 [some (.inr (some (.inr []))), some (.inr (some (.inl 0))), some (.inr (some (.inl 55))), some (.inl (nI (6 * j)))] [] h := by
  refine And.intro (sv (k := 1) hj hL (by omega)) ?_
  refine And.intro (sv (k := 2) hj hL (by omega)) ?_
  refine callT (τ := τ) (tm := tmO [3, 9, 14, 19, 24, 27, 32, 35, 54, 39, 47, 40]) (A := [.inl (-2147483648, 2147483647), .inl (-2147483648, 2147483647), .inr (.inr (some (.inl 0)))]) (H := HL_R2) (Ts := [([.inl (-2147483648, 2147483647)], HL_R2)]) hΦ s_X11_ship ⟨topA_ok _, topA_ok _, rfl, trivial⟩ hh (by decide +kernel) (fun T hT st h1 q1 q2 => ?_)
  cases List.mem_singleton.mp hT
  obtain ⟨v, rfl, _⟩ := st1 q1
  refine And.intro (sv (k := 1) hj hL (by omega)) ?_
  refine And.intro (sv (k := 2) hj hL (by omega)) ?_
  refine callT (τ := τ) (tm := tmO [56, 57, 58, 59, 60, 61, 62, 63, 65, 66, 67, 68, 69, 70, 71, 72, 73, 74, 75, 76, 77, 78, 79, 80, 81, 82, 83, 84, 85, 86]) (A := [.inl (-2147483648, 2147483647), .inl (-2147483648, 2147483647), .inr (.inr (some (.inl 55)))]) (H := HL_R2) (Ts := [([.inl (-2147483648, 2147483647)], HL_R2)]) hΦ s_X12_ship ⟨topA_ok _, topA_ok _, rfl, trivial⟩ q2 (by decide +kernel) (fun T hT st h2 q3 q4 => ?_)
  cases List.mem_singleton.mp hT
  obtain ⟨w, rfl, _⟩ := st1 q3
  exact K τ h2 hΦ (Or.inr (Or.inr q4))

set_option maxRecDepth 100000 in
theorem g_law_mule_R2 {l : Launch} {Ls : Nat} {xs : Nat → Int32} {c18 : Blk} {τ : Nat → List (Option Nat)} {h : PH} {j : Nat} (hΦ : Φ τ) (hj : 6 * j + 6 ≤ Ls) (hL : Ls ≤ 3072) (hh : all2 (gC ρ0 τ) HL_R2 h) (K : ∀ (τ2 : Nat → List (Option Nat)) (h2 : PH), Φ τ2 → HH τ2 h2 → c18 [some (.inr (some (.inr []))), some (.inr (some (.inl 0))), some (.inr (some (.inl 55))), some (.inl (f_add (nI (6 * j)) 6))] [] h2) : b2_L_law_894 l Ls xs c18 [some (.inr (some (.inr []))), some (.inr (some (.inl 0))), some (.inr (some (.inl 55))), some (.inl (nI (6 * j)))] [] h := by
  refine And.intro (sv (k := 1) hj hL (by omega)) ?_
  refine And.intro (sv (k := 2) hj hL (by omega)) ?_
  refine And.intro (sv (k := 3) hj hL (by omega)) ?_
  refine callT (τ := τ) (tm := tmO [3, 9, 14, 19, 24, 27, 32, 35, 54, 39, 47, 40]) (A := [.inl (-2147483648, 2147483647), .inl (-2147483648, 2147483647), .inl (-2147483648, 2147483647), .inr (.inr (some (.inl 0)))]) (H := HL_R2) (Ts := [([.inl (-2147483648, 2147483647)], HL_R2)]) hΦ s_X11_mule ⟨topA_ok _, topA_ok _, topA_ok _, rfl, trivial⟩ hh (by decide +kernel) (fun T hT st h1 q1 q2 => ?_)
  cases List.mem_singleton.mp hT
  obtain ⟨v, rfl, _⟩ := st1 q1
  refine And.intro (sv (k := 1) hj hL (by omega)) ?_
  refine And.intro (sv (k := 2) hj hL (by omega)) ?_
  refine And.intro (sv (k := 3) hj hL (by omega)) ?_
  refine callT (τ := τ) (tm := tmO [56, 57, 58, 59, 60, 61, 62, 63, 65, 66, 67, 68, 69, 70, 71, 72, 73, 74, 75, 76, 77, 78, 79, 80, 81, 82, 83, 84, 85, 86]) (A := [.inl (-2147483648, 2147483647), .inl (-2147483648, 2147483647), .inl (-2147483648, 2147483647), .inr (.inr (some (.inl 55)))]) (H := HL_R2) (Ts := [([.inl (-2147483648, 2147483647)], HL_R2)]) hΦ s_X12_mule ⟨topA_ok _, topA_ok _, topA_ok _, rfl, trivial⟩ q2 (by decide +kernel) (fun T hT st h2 q3 q4 => ?_)
  cases List.mem_singleton.mp hT
  obtain ⟨w, rfl, _⟩ := st1 q3
  exact K τ h2 hΦ (Or.inr (Or.inr q4))

set_option maxRecDepth 100000 in
theorem g_law_marks_R2 {l : Launch} {Ls : Nat} {xs : Nat → Int32} {c18 : Blk} {τ : Nat → List (Option Nat)} {h : PH} {j : Nat} (hΦ : Φ τ) (hj : 6 * j + 6 ≤ Ls) (hL : Ls ≤ 3072) (hh : all2 (gC ρ0 τ) HL_R2 h) (K : ∀ (τ2 : Nat → List (Option Nat)) (h2 : PH), Φ τ2 → HH τ2 h2 → c18 [some (.inr (some (.inr []))), some (.inr (some (.inl 0))), some (.inr (some (.inl 55))), some (.inl (f_add (nI (6 * j)) 6))] [] h2) : b2_L_law_937 l Ls xs c18 [some (.inr (some (.inr []))), some (.inr (some (.inl 0))), some (.inr (some (.inl 55))), some (.inl (nI (6 * j)))] [] h := by
  refine And.intro (sv (k := 1) hj hL (by omega)) ?_
  refine And.intro (sv (k := 2) hj hL (by omega)) ?_
  refine callT (τ := τ) (tm := tmO [3, 9, 14, 19, 24, 27, 32, 35, 54, 39, 47, 40]) (A := [.inl (-2147483648, 2147483647), .inl (-2147483648, 2147483647), .inr (.inr (some (.inl 0)))]) (H := HL_R2) (Ts := [([.inl (-2147483648, 2147483647)], HL_R2)]) hΦ s_X11_marks ⟨topA_ok _, topA_ok _, rfl, trivial⟩ hh (by decide +kernel) (fun T hT st h1 q1 q2 => ?_)
  cases List.mem_singleton.mp hT
  obtain ⟨v, rfl, _⟩ := st1 q1
  refine And.intro (sv (k := 1) hj hL (by omega)) ?_
  refine And.intro (sv (k := 2) hj hL (by omega)) ?_
  refine callT (τ := τ) (tm := tmO [56, 57, 58, 59, 60, 61, 62, 63, 65, 66, 67, 68, 69, 70, 71, 72, 73, 74, 75, 76, 77, 78, 79, 80, 81, 82, 83, 84, 86]) (A := [.inl (-2147483648, 2147483647), .inl (-2147483648, 2147483647), .inr (.inr (some (.inl 55)))]) (H := HL_R2) (Ts := [([.inl (-2147483648, 2147483647)], HL_R2)]) hΦ s_X12_marks ⟨topA_ok _, topA_ok _, rfl, trivial⟩ q2 (by decide +kernel) (fun T hT st h2 q3 q4 => ?_)
  cases List.mem_singleton.mp hT
  obtain ⟨w, rfl, _⟩ := st1 q3
  exact K τ h2 hΦ (Or.inr (Or.inr q4))

set_option maxRecDepth 100000 in
theorem g_law_franked_R2 {l : Launch} {Ls : Nat} {xs : Nat → Int32} {c18 : Blk} {τ : Nat → List (Option Nat)} {h : PH} {j : Nat} (hΦ : Φ τ) (hj : 6 * j + 6 ≤ Ls) (hL : Ls ≤ 3072) (hh : all2 (gC ρ0 τ) HL_R2 h) (K : ∀ (τ2 : Nat → List (Option Nat)) (h2 : PH), Φ τ2 → HH τ2 h2 → c18 [some (.inr (some (.inr []))), some (.inr (some (.inl 0))), some (.inr (some (.inl 55))), some (.inl (f_add (nI (6 * j)) 6))] [] h2) : b2_L_law_970 l Ls xs c18 [some (.inr (some (.inr []))), some (.inr (some (.inl 0))), some (.inr (some (.inl 55))), some (.inl (nI (6 * j)))] [] h := by
  refine And.intro (sv (k := 1) hj hL (by omega)) ?_
  refine And.intro (sv (k := 2) hj hL (by omega)) ?_
  refine callT (τ := τ) (tm := tmO [3, 9, 14, 19, 24, 27, 32, 35, 54, 39, 47, 40]) (A := [.inl (-2147483648, 2147483647), .inl (-2147483648, 2147483647), .inr (.inr (some (.inl 0)))]) (H := HL_R2) (Ts := [([.inl (-2147483648, 2147483647)], HL_R2)]) hΦ s_X11_franked ⟨topA_ok _, topA_ok _, rfl, trivial⟩ hh (by decide +kernel) (fun T hT st h1 q1 q2 => ?_)
  cases List.mem_singleton.mp hT
  obtain ⟨v, rfl, _⟩ := st1 q1
  refine And.intro (sv (k := 1) hj hL (by omega)) ?_
  refine And.intro (sv (k := 2) hj hL (by omega)) ?_
  refine callT (τ := τ) (tm := tmO [56, 57, 58, 59, 60, 61, 62, 63, 65, 66, 67, 68, 69, 70, 71, 72, 73, 74, 75, 76, 77, 78, 79, 80, 81, 82, 83, 84, 86]) (A := [.inl (-2147483648, 2147483647), .inl (-2147483648, 2147483647), .inr (.inr (some (.inl 55)))]) (H := HL_R2) (Ts := [([.inl (-2147483648, 2147483647)], HL_R2)]) hΦ s_X12_franked ⟨topA_ok _, topA_ok _, rfl, trivial⟩ q2 (by decide +kernel) (fun T hT st h2 q3 q4 => ?_)
  cases List.mem_singleton.mp hT
  obtain ⟨w, rfl, _⟩ := st1 q3
  exact K τ h2 hΦ (Or.inr (Or.inr q4))

set_option maxRecDepth 100000 in
theorem g_law_exchange_R2 {l : Launch} {Ls : Nat} {xs : Nat → Int32} {c18 : Blk} {τ : Nat → List (Option Nat)} {h : PH} {j : Nat} (hΦ : Φ τ) (hj : 6 * j + 6 ≤ Ls) (hL : Ls ≤ 3072) (hh : all2 (gC ρ0 τ) HL_R2 h) (K : ∀ (τ2 : Nat → List (Option Nat)) (h2 : PH), Φ τ2 → HH τ2 h2 → c18 [some (.inr (some (.inr []))), some (.inr (some (.inl 0))), some (.inr (some (.inl 55))), some (.inl (f_add (nI (6 * j)) 6))] [] h2) : b2_L_law_1003 l Ls xs c18 [some (.inr (some (.inr []))), some (.inr (some (.inl 0))), some (.inr (some (.inl 55))), some (.inl (nI (6 * j)))] [] h := by
  refine And.intro (sv (k := 1) hj hL (by omega)) ?_
  refine And.intro (sv (k := 2) hj hL (by omega)) ?_
  refine callT (τ := τ) (tm := tmO [3, 9, 14, 19, 24, 27, 32, 35, 54, 39, 47, 40]) (A := [.inl (-2147483648, 2147483647), .inl (-2147483648, 2147483647), .inr (.inr (some (.inl 0)))]) (H := HL_R2) (Ts := [([.inl (-2147483648, 2147483647)], HL_R2)]) hΦ s_X11_exchange ⟨topA_ok _, topA_ok _, rfl, trivial⟩ hh (by decide +kernel) (fun T hT st h1 q1 q2 => ?_)
  cases List.mem_singleton.mp hT
  obtain ⟨v, rfl, _⟩ := st1 q1
  refine And.intro (sv (k := 1) hj hL (by omega)) ?_
  refine And.intro (sv (k := 2) hj hL (by omega)) ?_
  refine callT (τ := τ) (tm := tmO [56, 57, 58, 59, 60, 61, 62, 63, 65, 66, 67, 68, 69, 70, 71, 72, 73, 74, 75, 76, 77, 78, 79, 80, 81, 82, 83, 84, 85]) (A := [.inl (-2147483648, 2147483647), .inl (-2147483648, 2147483647), .inr (.inr (some (.inl 55)))]) (H := HL_R2) (Ts := [([.inl (-2147483648, 2147483647)], HL_R2)]) hΦ s_X12_exchange ⟨topA_ok _, topA_ok _, rfl, trivial⟩ q2 (by decide +kernel) (fun T hT st h2 q3 q4 => ?_)
  cases List.mem_singleton.mp hT
  obtain ⟨w, rfl, _⟩ := st1 q3
  exact K τ h2 hΦ (Or.inr (Or.inr q4))

set_option maxRecDepth 100000 in
theorem g_law_seed_R2 {l : Launch} {Ls : Nat} {xs : Nat → Int32} {c18 : Blk} {τ : Nat → List (Option Nat)} {h : PH} {j : Nat} (hΦ : Φ τ) (hj : 6 * j + 6 ≤ Ls) (hL : Ls ≤ 3072) (hh : all2 (gC ρ0 τ) HL_R2 h) (K : ∀ (τ2 : Nat → List (Option Nat)) (h2 : PH), Φ τ2 → HH τ2 h2 → c18 [some (.inr (some (.inr []))), some (.inr (some (.inl 0))), some (.inr (some (.inl 55))), some (.inl (f_add (nI (6 * j)) 6))] [] h2) : b2_L_law_1036 l Ls xs c18 [some (.inr (some (.inr []))), some (.inr (some (.inl 0))), some (.inr (some (.inl 55))), some (.inl (nI (6 * j)))] [] h := by
  refine And.intro (sv (k := 1) hj hL (by omega)) ?_
  refine callT (τ := τ) (tm := tmO [1, 3, 14, 19, 24, 27, 29, 32, 35, 54, 39, 47, 40]) (A := [.inl (-2147483648, 2147483647), .inr (.inr (some (.inl 0)))]) (H := HL_R2) (Ts := [([.inl (-2147483648, 2147483647)], HL_R2)]) hΦ s_X11_seed ⟨topA_ok _, rfl, trivial⟩ hh (by decide +kernel) (fun T hT st h1 q1 q2 => ?_)
  cases List.mem_singleton.mp hT
  obtain ⟨v, rfl, _⟩ := st1 q1
  refine And.intro (sv (k := 1) hj hL (by omega)) ?_
  refine callT (τ := τ) (tm := tmO [57, 58, 59, 60, 61, 62, 63, 64, 65, 66, 67, 68, 69, 70, 71, 72, 73, 74, 75, 76, 77, 78, 79, 80, 81, 82, 83, 84, 85, 86]) (A := [.inl (-2147483648, 2147483647), .inr (.inr (some (.inl 55)))]) (H := HL_R2) (Ts := [([.inl (-2147483648, 2147483647)], HL_R2)]) hΦ s_X12_seed ⟨topA_ok _, rfl, trivial⟩ q2 (by decide +kernel) (fun T hT st h2 q3 q4 => ?_)
  cases List.mem_singleton.mp hT
  obtain ⟨w, rfl, _⟩ := st1 q3
  exact K τ h2 hΦ (Or.inr (Or.inr q4))

set_option maxRecDepth 100000 in
theorem g_law_keep_R2 {l : Launch} {Ls : Nat} {xs : Nat → Int32} {c18 : Blk} {τ : Nat → List (Option Nat)} {h : PH} {j : Nat} (hΦ : Φ τ) (hj : 6 * j + 6 ≤ Ls) (hL : Ls ≤ 3072) (hh : all2 (gC ρ0 τ) HL_R2 h) (K : ∀ (τ2 : Nat → List (Option Nat)) (h2 : PH), Φ τ2 → HH τ2 h2 → c18 [some (.inr (some (.inr []))), some (.inr (some (.inl 0))), some (.inr (some (.inl 55))), some (.inl (f_add (nI (6 * j)) 6))] [] h2) : b2_L_law_1059 l Ls xs c18 [some (.inr (some (.inr []))), some (.inr (some (.inl 0))), some (.inr (some (.inl 55))), some (.inl (nI (6 * j)))] [] h := by
  refine callT (τ := τ) (tm := tmO [1, 3, 19, 24, 27, 29, 32, 35, 54, 39, 47, 40]) (A := [.inr (.inr (some (.inl 0)))]) (H := HL_R2) (Ts := [([.inl (-2147483648, 2147483647)], HL_R2_k1)]) hΦ s_X11_keep ⟨rfl, trivial⟩ hh (by decide +kernel) (fun T hT st h1 q1 q2 => ?_)
  cases List.mem_singleton.mp hT
  obtain ⟨v, rfl, _⟩ := st1 q1
  refine callT (τ := τ) (tm := tmO [57, 59, 60, 61, 62, 63, 64, 65, 66, 67, 68, 69, 70, 71, 72, 73, 74, 75, 76, 77, 78, 79, 80, 81, 82, 83, 84, 85, 86]) (A := [.inr (.inr (some (.inl 55)))]) (H := HL_R2_k1) (Ts := [([.inl (-2147483648, 2147483647)], HL_R2_k2)]) hΦ s_X12_keep ⟨rfl, trivial⟩ q2 (by decide +kernel) (fun T hT st h2 p1 p2 => ?_)
  cases List.mem_singleton.mp hT
  obtain ⟨w, rfl, _⟩ := st1 p1
  exact K (upT τ 201 1) h2 hΦ (Or.inr (Or.inr (mvH (k := 201) (c := 1) rfl (fun t ht => upT_ne ht) (by rw [upT_at]; rfl) (by decide) (by decide +kernel) p2)))

set_option maxRecDepth 100000 in
theorem g_law_undo_R2 {l : Launch} {Ls : Nat} {xs : Nat → Int32} {c18 : Blk} {τ : Nat → List (Option Nat)} {h : PH} {j : Nat} (hΦ : Φ τ) (hj : 6 * j + 6 ≤ Ls) (hL : Ls ≤ 3072) (hh : all2 (gC ρ0 τ) HL_R2 h) (K : ∀ (τ2 : Nat → List (Option Nat)) (h2 : PH), Φ τ2 → HH τ2 h2 → c18 [some (.inr (some (.inr []))), some (.inr (some (.inl 0))), some (.inr (some (.inl 55))), some (.inl (f_add (nI (6 * j)) 6))] [] h2) : b2_L_law_1072 l Ls xs c18 [some (.inr (some (.inr []))), some (.inr (some (.inl 0))), some (.inr (some (.inl 55))), some (.inl (nI (6 * j)))] [] h := by
  have hr := tokR (i := 0) (j := 14) (t := 201) hh rfl rfl rfl
  have hr : 0 ≤ (decA (τ 201) 0).toInt ∧ (decA (τ 201) 0).toInt ≤ 1 := hr
  rcases (show (decA (τ 201) 0).toInt = 0 ∨ (decA (τ 201) 0).toInt = 1 by omega) with e | e
  · have hh := fxH (k := 201) (c := 0) (E := HL_R2_u0) rfl e (by decide +kernel) hh
    refine callT (τ := τ) (tm := tmO [1, 19, 24, 27, 29, 32, 35, 54, 39, 47, 40]) (A := [.inr (.inr (some (.inl 0)))]) (H := HL_R2_u0) (Ts := [([.inl (0, 0)], HL_R2_u0)]) hΦ s_X11_undo_0 ⟨rfl, trivial⟩ hh (by decide +kernel) (fun T hT st h1 q1 q2 => ?_)
    cases List.mem_singleton.mp hT
    obtain ⟨v, rfl, hv⟩ := st1 q1
    refine callT (τ := τ) (tm := tmO [57, 59, 60, 61, 62, 63, 64, 65, 66, 67, 68, 69, 70, 71, 72, 73, 74, 75, 76, 77, 78, 79, 80, 81, 82, 83, 84, 85, 86]) (A := [.inr (.inr (some (.inl 55))), .inl (0, 0)]) (H := HL_R2_u0) (Ts := [([.inl (0, 0), .inl (0, 0)], HL_R2_u0)]) hΦ s_X12_undo_0 ⟨rfl, hv, trivial⟩ q2 (by decide +kernel) (fun T hT st h2 p1 p2 => ?_)
    cases List.mem_singleton.mp hT
    obtain ⟨w, v2, rfl, hw, hv2⟩ := st2 p1
    obtain ⟨w, rfl, w1, w2⟩ := hw
    obtain ⟨v2, rfl, u1, u2⟩ := hv2
    refine And.intro (fun _ => ?_) (fun z => absurd (i32eq.mpr (by omega)) z)
    exact K τ h2 hΦ (Or.inr (Or.inr (mvH (k := 201) (c := 0) rfl (fun _ _ => rfl) e (by decide) (by decide +kernel) p2)))
  · have hh := fxH (k := 201) (c := 1) (E := HL_R2_k2) rfl e (by decide +kernel) hh
    refine callT (τ := τ) (tm := tmO [1, 19, 24, 27, 29, 32, 35, 54, 39, 47, 40]) (A := [.inr (.inr (some (.inl 0)))]) (H := HL_R2_k2) (Ts := [([.inl (1, 1)], HL_R2_k2)]) hΦ s_X11_undo_1 ⟨rfl, trivial⟩ hh (by decide +kernel) (fun T hT st h1 q1 q2 => ?_)
    cases List.mem_singleton.mp hT
    obtain ⟨v, rfl, hv⟩ := st1 q1
    refine callT (τ := τ) (tm := tmO [57, 59, 60, 61, 62, 63, 64, 65, 66, 67, 68, 69, 70, 71, 72, 73, 74, 75, 76, 77, 78, 79, 80, 81, 82, 83, 84, 85, 86]) (A := [.inr (.inr (some (.inl 55))), .inl (1, 1)]) (H := HL_R2_k2) (Ts := [([.inl (1, 1), .inl (1, 1)], HL_R2_k2)]) hΦ s_X12_undo_1 ⟨rfl, hv, trivial⟩ q2 (by decide +kernel) (fun T hT st h2 p1 p2 => ?_)
    cases List.mem_singleton.mp hT
    obtain ⟨w, v2, rfl, hw, hv2⟩ := st2 p1
    obtain ⟨w, rfl, w1, w2⟩ := hw
    obtain ⟨v2, rfl, u1, u2⟩ := hv2
    refine And.intro (fun _ => ?_) (fun z => absurd (i32eq.mpr (by omega)) z)
    exact K τ h2 hΦ (Or.inr (Or.inr (mvH (k := 201) (c := 1) rfl (fun _ _ => rfl) e (by decide) (by decide +kernel) p2)))

set_option maxRecDepth 100000 in
theorem g_law_check_R2 {l : Launch} {Ls : Nat} {xs : Nat → Int32} {c18 : Blk} {τ : Nat → List (Option Nat)} {h : PH} {j : Nat} (hΦ : Φ τ) (hj : 6 * j + 6 ≤ Ls) (hL : Ls ≤ 3072) (hh : all2 (gC ρ0 τ) HL_R2 h) (K : ∀ (τ2 : Nat → List (Option Nat)) (h2 : PH), Φ τ2 → HH τ2 h2 → c18 [some (.inr (some (.inr []))), some (.inr (some (.inl 0))), some (.inr (some (.inl 55))), some (.inl (f_add (nI (6 * j)) 6))] [] h2) : b2_L_law_1085 l Ls xs c18 [some (.inr (some (.inr []))), some (.inr (some (.inl 0))), some (.inr (some (.inl 55))), some (.inl (nI (6 * j)))] [] h := by
  refine And.intro (sv (k := 1) hj hL (by omega)) ?_
  refine callT (τ := τ) (tm := tmO [3, 14, 19, 24, 27, 29, 32, 35, 54, 39, 47, 40]) (A := [.inl (-2147483648, 2147483647), .inr (.inr (some (.inl 0)))]) (H := HL_R2) (Ts := [([.inl (-2147483648, 2147483647)], HL_R2)]) hΦ s_X11_check ⟨topA_ok _, rfl, trivial⟩ hh (by decide +kernel) (fun T hT st h1 q1 q2 => ?_)
  cases List.mem_singleton.mp hT
  obtain ⟨v, rfl, _⟩ := st1 q1
  refine And.intro (sv (k := 1) hj hL (by omega)) ?_
  refine callT (τ := τ) (tm := tmO [57, 58, 59, 60, 61, 62, 63, 65, 66, 67, 68, 69, 70, 71, 72, 73, 74, 75, 76, 77, 78, 79, 80, 81, 82, 83, 84, 85, 86]) (A := [.inl (-2147483648, 2147483647), .inr (.inr (some (.inl 55)))]) (H := HL_R2) (Ts := [([.inl (-2147483648, 2147483647)], HL_R2)]) hΦ s_X12_check ⟨topA_ok _, rfl, trivial⟩ q2 (by decide +kernel) (fun T hT st h2 q3 q4 => ?_)
  cases List.mem_singleton.mp hT
  obtain ⟨w, rfl, _⟩ := st1 q3
  exact K τ h2 hΦ (Or.inr (Or.inr q4))

set_option maxRecDepth 100000 in
theorem g_law_count_R2 {l : Launch} {Ls : Nat} {xs : Nat → Int32} {c18 : Blk} {τ : Nat → List (Option Nat)} {h : PH} {j : Nat} (hΦ : Φ τ) (hj : 6 * j + 6 ≤ Ls) (hL : Ls ≤ 3072) (hh : all2 (gC ρ0 τ) HL_R2 h) (K : ∀ (τ2 : Nat → List (Option Nat)) (h2 : PH), Φ τ2 → HH τ2 h2 → c18 [some (.inr (some (.inr []))), some (.inr (some (.inl 0))), some (.inr (some (.inl 55))), some (.inl (f_add (nI (6 * j)) 6))] [] h2) : b2_L_law_1108 l Ls xs c18 [some (.inr (some (.inr []))), some (.inr (some (.inl 0))), some (.inr (some (.inl 55))), some (.inl (nI (6 * j)))] [] h := by
  refine And.intro (sv (k := 1) hj hL (by omega)) ?_
  refine callT (τ := τ) (tm := tmO [14, 19, 24, 27, 29, 32, 35, 54, 39, 40]) (A := [.inl (-2147483648, 2147483647), .inr (.inr (some (.inl 0)))]) (H := HL_R2) (Ts := [([.inl (-2147483648, 2147483647)], HL_R2)]) hΦ s_X11_count ⟨topA_ok _, rfl, trivial⟩ hh (by decide +kernel) (fun T hT st h1 q1 q2 => ?_)
  cases List.mem_singleton.mp hT
  obtain ⟨v, rfl, _⟩ := st1 q1
  refine And.intro (sv (k := 1) hj hL (by omega)) ?_
  refine callT (τ := τ) (tm := tmO [57, 58, 60, 61, 63, 64, 65, 66, 67, 68, 69, 70, 71, 72, 73, 74, 75, 76, 77, 78, 79, 80, 81, 82, 83, 84, 85, 86]) (A := [.inl (-2147483648, 2147483647), .inr (.inr (some (.inl 55)))]) (H := HL_R2) (Ts := [([.inl (-2147483648, 2147483647)], HL_R2)]) hΦ s_X12_count ⟨topA_ok _, rfl, trivial⟩ q2 (by decide +kernel) (fun T hT st h2 q3 q4 => ?_)
  cases List.mem_singleton.mp hT
  obtain ⟨w, rfl, _⟩ := st1 q3
  exact K τ h2 hΦ (Or.inr (Or.inr q4))

