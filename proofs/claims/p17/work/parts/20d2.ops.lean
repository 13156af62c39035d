set_option maxRecDepth 100000 in
theorem g_law_mint_R1_1 {l : Launch} {Ls : Nat} {xs : Nat → Int32} {c18 : Blk} {τ : Nat → List (Option Nat)} {h : PH} {j : Nat} (hΦ : Φ τ) (hz : RR τ) (hj : 6 * j + 6 ≤ Ls) (hL : Ls ≤ 3072) (hh : all2 (gC ρ0 τ) HL_R1 h) (K : ∀ (τ2 : Nat → List (Option Nat)) (h2 : PH), Φ τ2 → HH τ2 h2 → c18 [some (.inr (some (.inr []))), some (.inr (some (.inl 0))), some (.inr (some (.inl 55))), some (.inl (f_add (nI (6 * j)) 6))] [] h2) (g1 : -2147483648 ≤ (xs (f_add (nI (6 * j)) 1).toNatClampNeg).toInt ∧ (xs (f_add (nI (6 * j)) 1).toNatClampNeg).toInt ≤ -1) : b_L_law_164 l Ls xs c18 [some (.inr (some (.inr []))), some (.inr (some (.inl 0))), some (.inr (some (.inl 55))), some (.inl (nI (6 * j)))] [] h := by
  refine And.intro (sv (k := 1) hj hL (by omega)) ?_
  refine And.intro (sv (k := 2) hj hL (by omega)) ?_
  refine And.intro (sv (k := 3) hj hL (by omega)) ?_
  refine callT (τ := τ) (tm := tmO [1, 9, 14, 19, 24, 27, 29, 32, 35, 54, 39, 40, 47]) (A := [.inl (-2147483648, 2147483647), .inl (-2147483648, 2147483647), .inl (-2147483648, -1), .inr (.inr (some (.inl 0)))]) (H := HL_R1) (Ts := [([.inl (-2147483648, 2147483647)], HL_R1)]) hΦ s_X11_mint_1 ⟨topA_ok _, topA_ok _, ⟨_, rfl, g1⟩, rfl, trivial⟩ hh (by decide +kernel) (fun T hT st h1 q1 q2 => ?_)
  cases List.mem_singleton.mp hT
  obtain ⟨v, rfl, _⟩ := st1 q1
  refine And.intro (sv (k := 1) hj hL (by omega)) ?_
  refine And.intro (sv (k := 2) hj hL (by omega)) ?_
  refine And.intro (sv (k := 3) hj hL (by omega)) ?_
  refine callT (τ := τ) (tm := tmO [56, 57, 58, 60, 61, 62, 63, 64, 65, 66, 67, 68, 69, 70, 71, 72, 73, 74, 75, 76, 77, 78, 79, 80, 81, 82, 83, 84, 85, 86]) (A := [.inl (-2147483648, 2147483647), .inl (-2147483648, 2147483647), .inl (-2147483648, -1), .inr (.inr (some (.inl 55)))]) (H := HL_R1) (Ts := [([.inl (-2147483648, 2147483647)], HL_R1)]) hΦ s_X12_mint_1 ⟨topA_ok _, topA_ok _, ⟨_, rfl, g1⟩, rfl, trivial⟩ q2 (by decide +kernel) (fun T hT st h2 q3 q4 => ?_)
  cases List.mem_singleton.mp hT
  obtain ⟨w, rfl, _⟩ := st1 q3
  exact K τ h2 hΦ ⟨hz, Or.inl (Or.inr q4)⟩

set_option maxRecDepth 100000 in
theorem g_law_mint_R1_2 {l : Launch} {Ls : Nat} {xs : Nat → Int32} {c18 : Blk} {τ : Nat → List (Option Nat)} {h : PH} {j : Nat} (hΦ : Φ τ) (hz : RR τ) (hj : 6 * j + 6 ≤ Ls) (hL : Ls ≤ 3072) (hh : all2 (gC ρ0 τ) HL_R1 h) (K : ∀ (τ2 : Nat → List (Option Nat)) (h2 : PH), Φ τ2 → HH τ2 h2 → c18 [some (.inr (some (.inr []))), some (.inr (some (.inl 0))), some (.inr (some (.inl 55))), some (.inl (f_add (nI (6 * j)) 6))] [] h2) (g1 : 8 ≤ (xs (f_add (nI (6 * j)) 1).toNatClampNeg).toInt ∧ (xs (f_add (nI (6 * j)) 1).toNatClampNeg).toInt ≤ 2147483647) : b_L_law_164 l Ls xs c18 [some (.inr (some (.inr []))), some (.inr (some (.inl 0))), some (.inr (some (.inl 55))), some (.inl (nI (6 * j)))] [] h := by
  refine And.intro (sv (k := 1) hj hL (by omega)) ?_
  refine And.intro (sv (k := 2) hj hL (by omega)) ?_
  refine And.intro (sv (k := 3) hj hL (by omega)) ?_
  refine callT (τ := τ) (tm := tmO [1, 9, 14, 19, 24, 27, 29, 32, 35, 54, 39, 40, 47]) (A := [.inl (-2147483648, 2147483647), .inl (-2147483648, 2147483647), .inl (8, 2147483647), .inr (.inr (some (.inl 0)))]) (H := HL_R1) (Ts := [([.inl (-2147483648, 2147483647)], HL_R1)]) hΦ s_X11_mint_2 ⟨topA_ok _, topA_ok _, ⟨_, rfl, g1⟩, rfl, trivial⟩ hh (by decide +kernel) (fun T hT st h1 q1 q2 => ?_)
  cases List.mem_singleton.mp hT
  obtain ⟨v, rfl, _⟩ := st1 q1
  refine And.intro (sv (k := 1) hj hL (by omega)) ?_
  refine And.intro (sv (k := 2) hj hL (by omega)) ?_
  refine And.intro (sv (k := 3) hj hL (by omega)) ?_
  refine callT (τ := τ) (tm := tmO [56, 57, 58, 60, 61, 62, 63, 64, 65, 66, 67, 68, 69, 70, 71, 72, 73, 74, 75, 76, 77, 78, 79, 80, 81, 82, 83, 84, 85, 86]) (A := [.inl (-2147483648, 2147483647), .inl (-2147483648, 2147483647), .inl (8, 2147483647), .inr (.inr (some (.inl 55)))]) (H := HL_R1) (Ts := [([.inl (-2147483648, 2147483647)], HL_R1)]) hΦ s_X12_mint_2 ⟨topA_ok _, topA_ok _, ⟨_, rfl, g1⟩, rfl, trivial⟩ q2 (by decide +kernel) (fun T hT st h2 q3 q4 => ?_)
  cases List.mem_singleton.mp hT
  obtain ⟨w, rfl, _⟩ := st1 q3
  exact K τ h2 hΦ ⟨hz, Or.inl (Or.inr q4)⟩

set_option maxRecDepth 100000 in
theorem g_law_mint_R1_3 {l : Launch} {Ls : Nat} {xs : Nat → Int32} {c18 : Blk} {τ : Nat → List (Option Nat)} {h : PH} {j : Nat} (hΦ : Φ τ) (hz : RR τ) (hj : 6 * j + 6 ≤ Ls) (hL : Ls ≤ 3072) (hh : all2 (gC ρ0 τ) HL_R1 h) (K : ∀ (τ2 : Nat → List (Option Nat)) (h2 : PH), Φ τ2 → HH τ2 h2 → c18 [some (.inr (some (.inr []))), some (.inr (some (.inl 0))), some (.inr (some (.inl 55))), some (.inl (f_add (nI (6 * j)) 6))] [] h2) (g2 : -2147483648 ≤ (xs (f_add (nI (6 * j)) 2).toNatClampNeg).toInt ∧ (xs (f_add (nI (6 * j)) 2).toNatClampNeg).toInt ≤ -1) : b_L_law_164 l Ls xs c18 [some (.inr (some (.inr []))), some (.inr (some (.inl 0))), some (.inr (some (.inl 55))), some (.inl (nI (6 * j)))] [] h := by
  refine And.intro (sv (k := 1) hj hL (by omega)) ?_
  refine And.intro (sv (k := 2) hj hL (by omega)) ?_
  refine And.intro (sv (k := 3) hj hL (by omega)) ?_
  refine callT (τ := τ) (tm := tmO [1, 9, 14, 19, 24, 27, 29, 32, 35, 54, 39, 40, 47]) (A := [.inl (-2147483648, 2147483647), .inl (-2147483648, -1), .inl (-2147483648, 2147483647), .inr (.inr (some (.inl 0)))]) (H := HL_R1) (Ts := [([.inl (-2147483648, 2147483647)], HL_R1)]) hΦ s_X11_mint_3 ⟨topA_ok _, ⟨_, rfl, g2⟩, topA_ok _, rfl, trivial⟩ hh (by decide +kernel) (fun T hT st h1 q1 q2 => ?_)
  cases List.mem_singleton.mp hT
  obtain ⟨v, rfl, _⟩ := st1 q1
  refine And.intro (sv (k := 1) hj hL (by omega)) ?_
  refine And.intro (sv (k := 2) hj hL (by omega)) ?_
  refine And.intro (sv (k := 3) hj hL (by omega)) ?_
  refine callT (τ := τ) (tm := tmO [56, 57, 58, 60, 61, 62, 63, 64, 65, 66, 67, 68, 69, 70, 71, 72, 73, 74, 75, 76, 77, 78, 79, 80, 81, 82, 83, 84, 85, 86]) (A := [.inl (-2147483648, 2147483647), .inl (-2147483648, -1), .inl (-2147483648, 2147483647), .inr (.inr (some (.inl 55)))]) (H := HL_R1) (Ts := [([.inl (-2147483648, 2147483647)], HL_R1)]) hΦ s_X12_mint_3 ⟨topA_ok _, ⟨_, rfl, g2⟩, topA_ok _, rfl, trivial⟩ q2 (by decide +kernel) (fun T hT st h2 q3 q4 => ?_)
  cases List.mem_singleton.mp hT
  obtain ⟨w, rfl, _⟩ := st1 q3
  exact K τ h2 hΦ ⟨hz, Or.inl (Or.inr q4)⟩

set_option maxRecDepth 100000 in
theorem g_law_mint_R1_4 {l : Launch} {Ls : Nat} {xs : Nat → Int32} {c18 : Blk} {τ : Nat → List (Option Nat)} {h : PH} {j : Nat} (hΦ : Φ τ) (hz : RR τ) (hj : 6 * j + 6 ≤ Ls) (hL : Ls ≤ 3072) (hh : all2 (gC ρ0 τ) HL_R1 h) (K : ∀ (τ2 : Nat → List (Option Nat)) (h2 : PH), Φ τ2 → HH τ2 h2 → c18 [some (.inr (some (.inr []))), some (.inr (some (.inl 0))), some (.inr (some (.inl 55))), some (.inl (f_add (nI (6 * j)) 6))] [] h2) (g2 : 24 ≤ (xs (f_add (nI (6 * j)) 2).toNatClampNeg).toInt ∧ (xs (f_add (nI (6 * j)) 2).toNatClampNeg).toInt ≤ 2147483647) : b_L_law_164 l Ls xs c18 [some (.inr (some (.inr []))), some (.inr (some (.inl 0))), some (.inr (some (.inl 55))), some (.inl (nI (6 * j)))] [] h := by
  refine And.intro (sv (k := 1) hj hL (by omega)) ?_
  refine And.intro (sv (k := 2) hj hL (by omega)) ?_
  refine And.intro (sv (k := 3) hj hL (by omega)) ?_
  refine callT (τ := τ) (tm := tmO [1, 9, 14, 19, 24, 27, 29, 32, 35, 54, 39, 40, 47]) (A := [.inl (-2147483648, 2147483647), .inl (24, 2147483647), .inl (-2147483648, 2147483647), .inr (.inr (some (.inl 0)))]) (H := HL_R1) (Ts := [([.inl (-2147483648, 2147483647)], HL_R1)]) hΦ s_X11_mint_4 ⟨topA_ok _, ⟨_, rfl, g2⟩, topA_ok _, rfl, trivial⟩ hh (by decide +kernel) (fun T hT st h1 q1 q2 => ?_)
  cases List.mem_singleton.mp hT
  obtain ⟨v, rfl, _⟩ := st1 q1
  refine And.intro (sv (k := 1) hj hL (by omega)) ?_
  refine And.intro (sv (k := 2) hj hL (by omega)) ?_
  refine And.intro (sv (k := 3) hj hL (by omega)) ?_
  refine callT (τ := τ) (tm := tmO [56, 57, 58, 60, 61, 62, 63, 64, 65, 66, 67, 68, 69, 70, 71, 72, 73, 74, 75, 76, 77, 78, 79, 80, 81, 82, 83, 84, 85, 86]) (A := [.inl (-2147483648, 2147483647), .inl (24, 2147483647), .inl (-2147483648, 2147483647), .inr (.inr (some (.inl 55)))]) (H := HL_R1) (Ts := [([.inl (-2147483648, 2147483647)], HL_R1)]) hΦ s_X12_mint_4 ⟨topA_ok _, ⟨_, rfl, g2⟩, topA_ok _, rfl, trivial⟩ q2 (by decide +kernel) (fun T hT st h2 q3 q4 => ?_)
  cases List.mem_singleton.mp hT
  obtain ⟨w, rfl, _⟩ := st1 q3
  exact K τ h2 hΦ ⟨hz, Or.inl (Or.inr q4)⟩

set_option maxRecDepth 100000 in
theorem g_law_mint_R1_5 {l : Launch} {Ls : Nat} {xs : Nat → Int32} {c18 : Blk} {τ : Nat → List (Option Nat)} {h : PH} {j : Nat} (hΦ : Φ τ) (hz : RR τ) (hj : 6 * j + 6 ≤ Ls) (hL : Ls ≤ 3072) (hh : all2 (gC ρ0 τ) HL_R1 h) (K : ∀ (τ2 : Nat → List (Option Nat)) (h2 : PH), Φ τ2 → HH τ2 h2 → c18 [some (.inr (some (.inr []))), some (.inr (some (.inl 0))), some (.inr (some (.inl 55))), some (.inl (f_add (nI (6 * j)) 6))] [] h2) (g3 : -2147483648 ≤ (xs (f_add (nI (6 * j)) 3).toNatClampNeg).toInt ∧ (xs (f_add (nI (6 * j)) 3).toNatClampNeg).toInt ≤ -1) : b_L_law_164 l Ls xs c18 [some (.inr (some (.inr []))), some (.inr (some (.inl 0))), some (.inr (some (.inl 55))), some (.inl (nI (6 * j)))] [] h := by
  refine And.intro (sv (k := 1) hj hL (by omega)) ?_
  refine And.intro (sv (k := 2) hj hL (by omega)) ?_
  refine And.intro (sv (k := 3) hj hL (by omega)) ?_
  refine callT (τ := τ) (tm := tmO [1, 9, 14, 19, 24, 27, 29, 32, 35, 54, 39, 40, 47]) (A := [.inl (-2147483648, -1), .inl (-2147483648, 2147483647), .inl (-2147483648, 2147483647), .inr (.inr (some (.inl 0)))]) (H := HL_R1) (Ts := [([.inl (-2147483648, 2147483647)], HL_R1)]) hΦ s_X11_mint_5 ⟨⟨_, rfl, g3⟩, topA_ok _, topA_ok _, rfl, trivial⟩ hh (by decide +kernel) (fun T hT st h1 q1 q2 => ?_)
  cases List.mem_singleton.mp hT
  obtain ⟨v, rfl, _⟩ := st1 q1
  refine And.intro (sv (k := 1) hj hL (by omega)) ?_
  refine And.intro (sv (k := 2) hj hL (by omega)) ?_
  refine And.intro (sv (k := 3) hj hL (by omega)) ?_
  refine callT (τ := τ) (tm := tmO [56, 57, 58, 60, 61, 62, 63, 64, 65, 66, 67, 68, 69, 70, 71, 72, 73, 74, 75, 76, 77, 78, 79, 80, 81, 82, 83, 84, 85, 86]) (A := [.inl (-2147483648, -1), .inl (-2147483648, 2147483647), .inl (-2147483648, 2147483647), .inr (.inr (some (.inl 55)))]) (H := HL_R1) (Ts := [([.inl (-2147483648, 2147483647)], HL_R1)]) hΦ s_X12_mint_5 ⟨⟨_, rfl, g3⟩, topA_ok _, topA_ok _, rfl, trivial⟩ q2 (by decide +kernel) (fun T hT st h2 q3 q4 => ?_)
  cases List.mem_singleton.mp hT
  obtain ⟨w, rfl, _⟩ := st1 q3
  exact K τ h2 hΦ ⟨hz, Or.inl (Or.inr q4)⟩

set_option maxRecDepth 100000 in
theorem g_law_mint_R1_6 {l : Launch} {Ls : Nat} {xs : Nat → Int32} {c18 : Blk} {τ : Nat → List (Option Nat)} {h : PH} {j : Nat} (hΦ : Φ τ) (hz : RR τ) (hj : 6 * j + 6 ≤ Ls) (hL : Ls ≤ 3072) (hh : all2 (gC ρ0 τ) HL_R1 h) (K : ∀ (τ2 : Nat → List (Option Nat)) (h2 : PH), Φ τ2 → HH τ2 h2 → c18 [some (.inr (some (.inr []))), some (.inr (some (.inl 0))), some (.inr (some (.inl 55))), some (.inl (f_add (nI (6 * j)) 6))] [] h2) (g3 : 16 ≤ (xs (f_add (nI (6 * j)) 3).toNatClampNeg).toInt ∧ (xs (f_add (nI (6 * j)) 3).toNatClampNeg).toInt ≤ 2147483647) : b_L_law_164 l Ls xs c18 [some (.inr (some (.inr []))), some (.inr (some (.inl 0))), some (.inr (some (.inl 55))), some (.inl (nI (6 * j)))] [] h := by
  refine And.intro (sv (k := 1) hj hL (by omega)) ?_
  refine And.intro (sv (k := 2) hj hL (by omega)) ?_
  refine And.intro (sv (k := 3) hj hL (by omega)) ?_
  refine callT (τ := τ) (tm := tmO [1, 9, 14, 19, 24, 27, 29, 32, 35, 54, 39, 40, 47]) (A := [.inl (16, 2147483647), .inl (-2147483648, 2147483647), .inl (-2147483648, 2147483647), .inr (.inr (some (.inl 0)))]) (H := HL_R1) (Ts := [([.inl (-2147483648, 2147483647)], HL_R1)]) hΦ s_X11_mint_6 ⟨⟨_, rfl, g3⟩, topA_ok _, topA_ok _, rfl, trivial⟩ hh (by decide +kernel) (fun T hT st h1 q1 q2 => ?_)
  cases List.mem_singleton.mp hT
  obtain ⟨v, rfl, _⟩ := st1 q1
  refine And.intro (sv (k := 1) hj hL (by omega)) ?_
  refine And.intro (sv (k := 2) hj hL (by omega)) ?_
  refine And.intro (sv (k := 3) hj hL (by omega)) ?_
  refine callT (τ := τ) (tm := tmO [56, 57, 58, 60, 61, 62, 63, 64, 65, 66, 67, 68, 69, 70, 71, 72, 73, 74, 75, 76, 77, 78, 79, 80, 81, 82, 83, 84, 85, 86]) (A := [.inl (16, 2147483647), .inl (-2147483648, 2147483647), .inl (-2147483648, 2147483647), .inr (.inr (some (.inl 55)))]) (H := HL_R1) (Ts := [([.inl (-2147483648, 2147483647)], HL_R1)]) hΦ s_X12_mint_6 ⟨⟨_, rfl, g3⟩, topA_ok _, topA_ok _, rfl, trivial⟩ q2 (by decide +kernel) (fun T hT st h2 q3 q4 => ?_)
  cases List.mem_singleton.mp hT
  obtain ⟨w, rfl, _⟩ := st1 q3
  exact K τ h2 hΦ ⟨hz, Or.inl (Or.inr q4)⟩

set_option maxRecDepth 100000 in
theorem g_law_mint_R1_0 {l : Launch} {Ls : Nat} {xs : Nat → Int32} {c18 : Blk} {τ : Nat → List (Option Nat)} {h : PH} {j : Nat} (hΦ : Φ τ) (hz : RR τ) (hj : 6 * j + 6 ≤ Ls) (hL : Ls ≤ 3072) (hh : all2 (gC ρ0 τ) HL_R1 h) (K : ∀ (τ2 : Nat → List (Option Nat)) (h2 : PH), Φ τ2 → HH τ2 h2 → c18 [some (.inr (some (.inr []))), some (.inr (some (.inl 0))), some (.inr (some (.inl 55))), some (.inl (f_add (nI (6 * j)) 6))] [] h2) (g1 : 0 ≤ (xs (f_add (nI (6 * j)) 1).toNatClampNeg).toInt ∧ (xs (f_add (nI (6 * j)) 1).toNatClampNeg).toInt ≤ 7) (g2 : 0 ≤ (xs (f_add (nI (6 * j)) 2).toNatClampNeg).toInt ∧ (xs (f_add (nI (6 * j)) 2).toNatClampNeg).toInt ≤ 23) (g3 : 0 ≤ (xs (f_add (nI (6 * j)) 3).toNatClampNeg).toInt ∧ (xs (f_add (nI (6 * j)) 3).toNatClampNeg).toInt ≤ 15) : b_L_law_164 l Ls xs c18 [some (.inr (some (.inr []))), some (.inr (some (.inl 0))), some (.inr (some (.inl 55))), some (.inl (nI (6 * j)))] [] h := by
  obtain ⟨m, m_, e1⟩ := rng_n (x := (xs (f_add (nI (6 * j)) 1).toNatClampNeg)) (k := 7) g1.1 g1.2
  obtain ⟨x, x_, e2⟩ := rng_n (x := (xs (f_add (nI (6 * j)) 2).toNatClampNeg)) (k := 23) g2.1 g2.2
  obtain ⟨y, y_, e3⟩ := rng_n (x := (xs (f_add (nI (6 * j)) 3).toNatClampNeg)) (k := 15) g3.1 g3.2
  have rC := x_mintC (l := l) (m := m) (x := x) (y := y) (by omega) (by omega) (by omega)
  rw [← e1, ← e2, ← e3] at rC
  have rR := x_mintR (l := l) (m := m) (x := x) (y := y) (by omega) (by omega) (by omega)
  rw [← e1, ← e2, ← e3] at rR
  refine And.intro (sv (k := 1) hj hL (by omega)) ?_
  refine And.intro (sv (k := 2) hj hL (by omega)) ?_
  refine And.intro (sv (k := 3) hj hL (by omega)) ?_
  refine callX (τ := τ) (xs := [(xs (f_add (nI (6 * j)) 1).toNatClampNeg), (xs (f_add (nI (6 * j)) 2).toNatClampNeg), (xs (f_add (nI (6 * j)) 3).toNatClampNeg)]) (rest := []) (a := 0) (ci := 10) (tm := tmO [1, 9, 14, 19, 24, 27, 29, 32, 35, 54, 39, 40, 47]) (H := HL_R1) (H2 := HL_R1) hΦ trivial rC hh (fun K h => h) rfl rfl rfl (by decide +kernel) (by decide +kernel) (by decide +kernel) (by decide +kernel) (fun τ2 p2 p3 v h1 qv q2 => ?_)
  refine And.intro (sv (k := 1) hj hL (by omega)) ?_
  refine And.intro (sv (k := 2) hj hL (by omega)) ?_
  refine And.intro (sv (k := 3) hj hL (by omega)) ?_
  refine callX (τ := τ2) (xs := [(xs (f_add (nI (6 * j)) 1).toNatClampNeg), (xs (f_add (nI (6 * j)) 2).toNatClampNeg), (xs (f_add (nI (6 * j)) 3).toNatClampNeg)]) (rest := []) (a := 55) (ci := 11) (tm := tmO [56, 57, 58, 60, 61, 62, 63, 64, 65, 66, 67, 68, 69, 70, 71, 72, 73, 74, 75, 76, 77, 78, 79, 80, 81, 82, 83, 84, 85, 86]) (H := HL_R1) (H2 := HL_R1) p2 trivial rR q2 (fun K h => h) rfl rfl rfl (by decide +kernel) (by decide +kernel) (by decide +kernel) (by decide +kernel) (fun τ3 p4 p5 w h2 qw q4 => ?_)
  obtain ⟨FX, FY, a1, a2, b1, b2, b4⟩ := qv
  obtain ⟨FA, a3, b3⟩ := qw
  have a1 : ∀ i, i < 8 → FX i = decA (τ 252) i := a1
  have a2 : ∀ i, i < 8 → FY i = decA (τ 253) i := a2
  have b1 : ∀ i, i < 8 → decA (τ2 252) i = upd FX m ((xs (f_add (nI (6 * j)) 2).toNatClampNeg)) i := b1
  have b2 : ∀ i, i < 8 → decA (τ2 253) i = upd FY m ((xs (f_add (nI (6 * j)) 3).toNatClampNeg)) i := b2
  have b4 : decA (τ2 203) 0 = f_or (decA (τ 203) 0) (f_shl 1 ((xs (f_add (nI (6 * j)) 1).toNatClampNeg))) := b4
  have a3 : ∀ i, i < 8 → FA i = decA (τ2 254) i := a3
  have b3 : ∀ i, i < 8 → decA (τ3 254) i = upd FA m (nI (24 * y + x)) i := b3
  rw [e2] at b1
  rw [e3] at b2
  rw [e1] at b4
  have hm : MR τ3 := MR_up hz.2.2.1 (by omega) x_ y_ a1 a2 (fun i hi => by rw [a3 i hi, p3 254 rfl]) (fun i hi => by rw [p5 252 rfl]; exact b1 i hi) (fun i hi => by rw [p5 253 rfl]; exact b2 i hi) b3 (by rw [p5 203 rfl]; exact b4)
  have hz3 : RR τ3 := ⟨by rw [p5 202 rfl, p3 202 rfl]; exact hz.1, by rw [p5 250 rfl, p3 250 rfl, p5 251 rfl, p3 251 rfl]; exact hz.2.1, hm, (by have h := hz.2.2.2.1; unfold SR at h ⊢; rw [p5 204 rfl, p3 204 rfl, p5 205 rfl, p3 205 rfl, p5 255 rfl, p3 255 rfl, p5 256 rfl, p3 256 rfl, p5 257 rfl, p3 257 rfl, p5 258 rfl, p3 258 rfl]; exact h), (by have h := hz.2.2.2.2; unfold TR WR at h ⊢; rw [p5 206 rfl, p3 206 rfl, p5 207 rfl, p3 207 rfl, p5 208 rfl, p3 208 rfl, p5 209 rfl, p3 209 rfl, p5 263 rfl, p3 263 rfl, p5 264 rfl, p3 264 rfl]; exact h)⟩
  exact K τ3 h2 p4 ⟨hz3, Or.inl (Or.inr q4)⟩

theorem g_law_mint_R1 {l : Launch} {Ls : Nat} {xs : Nat → Int32} {c18 : Blk} {τ : Nat → List (Option Nat)} {h : PH} {j : Nat} (hΦ : Φ τ) (hz : RR τ) (hj : 6 * j + 6 ≤ Ls) (hL : Ls ≤ 3072) (hh : all2 (gC ρ0 τ) HL_R1 h) (K : ∀ (τ2 : Nat → List (Option Nat)) (h2 : PH), Φ τ2 → HH τ2 h2 → c18 [some (.inr (some (.inr []))), some (.inr (some (.inl 0))), some (.inr (some (.inl 55))), some (.inl (f_add (nI (6 * j)) 6))] [] h2) : b_L_law_164 l Ls xs c18 [some (.inr (some (.inr []))), some (.inr (some (.inl 0))), some (.inr (some (.inl 55))), some (.inl (nI (6 * j)))] [] h := by
  have l1 := i32lo (xs (f_add (nI (6 * j)) 1).toNatClampNeg)
  have u1 := i32hi (xs (f_add (nI (6 * j)) 1).toNatClampNeg)
  have l2 := i32lo (xs (f_add (nI (6 * j)) 2).toNatClampNeg)
  have u2 := i32hi (xs (f_add (nI (6 * j)) 2).toNatClampNeg)
  have l3 := i32lo (xs (f_add (nI (6 * j)) 3).toNatClampNeg)
  have u3 := i32hi (xs (f_add (nI (6 * j)) 3).toNatClampNeg)
  by_cases e0 : -2147483648 ≤ (xs (f_add (nI (6 * j)) 1).toNatClampNeg).toInt ∧ (xs (f_add (nI (6 * j)) 1).toNatClampNeg).toInt ≤ -1
  · exact g_law_mint_R1_1 hΦ hz hj hL hh K e0
  by_cases e1 : 8 ≤ (xs (f_add (nI (6 * j)) 1).toNatClampNeg).toInt ∧ (xs (f_add (nI (6 * j)) 1).toNatClampNeg).toInt ≤ 2147483647
  · exact g_law_mint_R1_2 hΦ hz hj hL hh K e1
  by_cases e2 : -2147483648 ≤ (xs (f_add (nI (6 * j)) 2).toNatClampNeg).toInt ∧ (xs (f_add (nI (6 * j)) 2).toNatClampNeg).toInt ≤ -1
  · exact g_law_mint_R1_3 hΦ hz hj hL hh K e2
  by_cases e3 : 24 ≤ (xs (f_add (nI (6 * j)) 2).toNatClampNeg).toInt ∧ (xs (f_add (nI (6 * j)) 2).toNatClampNeg).toInt ≤ 2147483647
  · exact g_law_mint_R1_4 hΦ hz hj hL hh K e3
  by_cases e4 : -2147483648 ≤ (xs (f_add (nI (6 * j)) 3).toNatClampNeg).toInt ∧ (xs (f_add (nI (6 * j)) 3).toNatClampNeg).toInt ≤ -1
  · exact g_law_mint_R1_5 hΦ hz hj hL hh K e4
  by_cases e5 : 16 ≤ (xs (f_add (nI (6 * j)) 3).toNatClampNeg).toInt ∧ (xs (f_add (nI (6 * j)) 3).toNatClampNeg).toInt ≤ 2147483647
  · exact g_law_mint_R1_6 hΦ hz hj hL hh K e5
  exact g_law_mint_R1_0 hΦ hz hj hL hh K ⟨by omega, by omega⟩ ⟨by omega, by omega⟩ ⟨by omega, by omega⟩

set_option maxRecDepth 100000 in
theorem g_law_feed_R1_0 {l : Launch} {Ls : Nat} {xs : Nat → Int32} {c18 : Blk} {τ : Nat → List (Option Nat)} {h : PH} {j : Nat} (hΦ : Φ τ) (hz : RR τ) (hj : 6 * j + 6 ≤ Ls) (hL : Ls ≤ 3072) (hh : all2 (gC ρ0 τ) HL_R1 h) (K : ∀ (τ2 : Nat → List (Option Nat)) (h2 : PH), Φ τ2 → HH τ2 h2 → c18 [some (.inr (some (.inr []))), some (.inr (some (.inl 0))), some (.inr (some (.inl 55))), some (.inl (f_add (nI (6 * j)) 6))] [] h2) (hs : (decA (τ 202) 0).toInt = 0) : b_L_law_207 l Ls xs c18 [some (.inr (some (.inr []))), some (.inr (some (.inl 0))), some (.inr (some (.inl 55))), some (.inl (nI (6 * j)))] [] h := by
  have hh := fxH (k := 202) (c := 0) (E := HL_R1_z0) rfl hs (by decide +kernel) hh
  refine And.intro (sv (k := 1) hj hL (by omega)) ?_
  refine And.intro (sv (k := 2) hj hL (by omega)) ?_
  refine And.intro (sv (k := 3) hj hL (by omega)) ?_
  refine And.intro (sv (k := 4) hj hL (by omega)) ?_
  refine And.intro (sv (k := 5) hj hL (by omega)) ?_
  refine callX (τ := τ) (xs := [(xs (f_add (nI (6 * j)) 1).toNatClampNeg), (xs (f_add (nI (6 * j)) 2).toNatClampNeg), (xs (f_add (nI (6 * j)) 3).toNatClampNeg), (xs (f_add (nI (6 * j)) 4).toNatClampNeg), (xs (f_add (nI (6 * j)) 5).toNatClampNeg)]) (rest := []) (a := 0) (ci := 10) (tm := tmO [3, 9, 14, 19, 24, 27, 29, 32, 35, 54, 39, 40, 47]) (H := HL_R1_z0) (H2 := HL_R1_f0) hΦ trivial (x_feedC (c := 0) (by omega)) hh (fun K h => h) rfl rfl rfl (by decide +kernel) (by decide +kernel) (by decide +kernel) (by decide +kernel) (fun τ2 p2 p3 v h1 qv q2 => ?_)
  refine And.intro (sv (k := 1) hj hL (by omega)) ?_
  refine And.intro (sv (k := 2) hj hL (by omega)) ?_
  refine And.intro (sv (k := 3) hj hL (by omega)) ?_
  refine And.intro (sv (k := 4) hj hL (by omega)) ?_
  refine And.intro (sv (k := 5) hj hL (by omega)) ?_
  refine callX (τ := τ2) (xs := [(xs (f_add (nI (6 * j)) 1).toNatClampNeg), (xs (f_add (nI (6 * j)) 2).toNatClampNeg), (xs (f_add (nI (6 * j)) 3).toNatClampNeg), (xs (f_add (nI (6 * j)) 4).toNatClampNeg), (xs (f_add (nI (6 * j)) 5).toNatClampNeg)]) (rest := []) (a := 55) (ci := 11) (tm := tmO [56, 57, 58, 59, 60, 61, 62, 63, 65, 66, 67, 68, 69, 70, 71, 72, 73, 74, 75, 76, 77, 78, 79, 80, 81, 82, 83, 84, 85, 86]) (H := HL_R1_f0) (H2 := HL_R1_z20) p2 trivial (x_feedR (c := 0) (by omega)) q2 (fun K h => h) rfl rfl rfl (by decide +kernel) (by decide +kernel) (by decide +kernel) (by decide +kernel) (fun τ3 p4 p5 w h2 qw q4 => ?_)
  obtain ⟨_, F, f1, f2⟩ := qv
  obtain ⟨_, G, k1, k2⟩ := qw
  have f1 : ∀ i, i < 260 → F i = decA (τ 250) i := f1
  have f2 : ∀ i, i < 260 → decA (τ2 250) i = fdC F 0 (xs (f_add (nI (6 * j)) 1).toNatClampNeg) (xs (f_add (nI (6 * j)) 2).toNatClampNeg) (xs (f_add (nI (6 * j)) 3).toNatClampNeg) (xs (f_add (nI (6 * j)) 4).toNatClampNeg) (xs (f_add (nI (6 * j)) 5).toNatClampNeg) i := f2
  have k1 : ∀ i, i < 260 → G i = decA (τ2 251) i := k1
  have k2 : ∀ i, i < 260 → decA (τ3 251) i = fdR G 0 (xs (f_add (nI (6 * j)) 1).toNatClampNeg) (xs (f_add (nI (6 * j)) 2).toNatClampNeg) (xs (f_add (nI (6 * j)) 3).toNatClampNeg) (xs (f_add (nI (6 * j)) 4).toNatClampNeg) (xs (f_add (nI (6 * j)) 5).toNatClampNeg) i := k2
  have sm : sameB (decA (τ3 250)) (decA (τ3 251)) := fun i hi => by
    rw [p5 250 rfl, f2 i hi, k2 i hi]
    exact fd_same (fun j hj => by rw [f1 j hj, k1 j hj, p3 251 rfl]; exact hz.2.1 j hj) i hi
  exact K (upT τ3 202 20) h2 p4 ⟨RR_up 1 (by omega) upT_at (RB_mk sm (fun t ht => (upT_ne (nB_ne ht)).trans ((p5 t (ch_not ht)).trans (p3 t (ch_not2 ht)))) hz.2), Or.inl (Or.inr (mvH (k := 202) (c := 20) rfl (fun t ht => upT_ne ht) (by rw [upT_at]; rfl) (by decide) (by decide +kernel) q4))⟩

set_option maxRecDepth 100000 in
theorem g_law_feed_R1_20 {l : Launch} {Ls : Nat} {xs : Nat → Int32} {c18 : Blk} {τ : Nat → List (Option Nat)} {h : PH} {j : Nat} (hΦ : Φ τ) (hz : RR τ) (hj : 6 * j + 6 ≤ Ls) (hL : Ls ≤ 3072) (hh : all2 (gC ρ0 τ) HL_R1 h) (K : ∀ (τ2 : Nat → List (Option Nat)) (h2 : PH), Φ τ2 → HH τ2 h2 → c18 [some (.inr (some (.inr []))), some (.inr (some (.inl 0))), some (.inr (some (.inl 55))), some (.inl (f_add (nI (6 * j)) 6))] [] h2) (hs : (decA (τ 202) 0).toInt = 20) : b_L_law_207 l Ls xs c18 [some (.inr (some (.inr []))), some (.inr (some (.inl 0))), some (.inr (some (.inl 55))), some (.inl (nI (6 * j)))] [] h := by
  have hh := fxH (k := 202) (c := 20) (E := HL_R1_z20) rfl hs (by decide +kernel) hh
  refine And.intro (sv (k := 1) hj hL (by omega)) ?_
  refine And.intro (sv (k := 2) hj hL (by omega)) ?_
  refine And.intro (sv (k := 3) hj hL (by omega)) ?_
  refine And.intro (sv (k := 4) hj hL (by omega)) ?_
  refine And.intro (sv (k := 5) hj hL (by omega)) ?_
  refine callX (τ := τ) (xs := [(xs (f_add (nI (6 * j)) 1).toNatClampNeg), (xs (f_add (nI (6 * j)) 2).toNatClampNeg), (xs (f_add (nI (6 * j)) 3).toNatClampNeg), (xs (f_add (nI (6 * j)) 4).toNatClampNeg), (xs (f_add (nI (6 * j)) 5).toNatClampNeg)]) (rest := []) (a := 0) (ci := 10) (tm := tmO [3, 9, 14, 19, 24, 27, 29, 32, 35, 54, 39, 40, 47]) (H := HL_R1_z20) (H2 := HL_R1_f20) hΦ trivial (x_feedC (c := 20) (by omega)) hh (fun K h => h) rfl rfl rfl (by decide +kernel) (by decide +kernel) (by decide +kernel) (by decide +kernel) (fun τ2 p2 p3 v h1 qv q2 => ?_)
  refine And.intro (sv (k := 1) hj hL (by omega)) ?_
  refine And.intro (sv (k := 2) hj hL (by omega)) ?_
  refine And.intro (sv (k := 3) hj hL (by omega)) ?_
  refine And.intro (sv (k := 4) hj hL (by omega)) ?_
  refine And.intro (sv (k := 5) hj hL (by omega)) ?_
  refine callX (τ := τ2) (xs := [(xs (f_add (nI (6 * j)) 1).toNatClampNeg), (xs (f_add (nI (6 * j)) 2).toNatClampNeg), (xs (f_add (nI (6 * j)) 3).toNatClampNeg), (xs (f_add (nI (6 * j)) 4).toNatClampNeg), (xs (f_add (nI (6 * j)) 5).toNatClampNeg)]) (rest := []) (a := 55) (ci := 11) (tm := tmO [56, 57, 58, 59, 60, 61, 62, 63, 65, 66, 67, 68, 69, 70, 71, 72, 73, 74, 75, 76, 77, 78, 79, 80, 81, 82, 83, 84, 85, 86]) (H := HL_R1_f20) (H2 := HL_R1_z40) p2 trivial (x_feedR (c := 20) (by omega)) q2 (fun K h => h) rfl rfl rfl (by decide +kernel) (by decide +kernel) (by decide +kernel) (by decide +kernel) (fun τ3 p4 p5 w h2 qw q4 => ?_)
  obtain ⟨_, F, f1, f2⟩ := qv
  obtain ⟨_, G, k1, k2⟩ := qw
  have f1 : ∀ i, i < 260 → F i = decA (τ 250) i := f1
  have f2 : ∀ i, i < 260 → decA (τ2 250) i = fdC F 20 (xs (f_add (nI (6 * j)) 1).toNatClampNeg) (xs (f_add (nI (6 * j)) 2).toNatClampNeg) (xs (f_add (nI (6 * j)) 3).toNatClampNeg) (xs (f_add (nI (6 * j)) 4).toNatClampNeg) (xs (f_add (nI (6 * j)) 5).toNatClampNeg) i := f2
  have k1 : ∀ i, i < 260 → G i = decA (τ2 251) i := k1
  have k2 : ∀ i, i < 260 → decA (τ3 251) i = fdR G 20 (xs (f_add (nI (6 * j)) 1).toNatClampNeg) (xs (f_add (nI (6 * j)) 2).toNatClampNeg) (xs (f_add (nI (6 * j)) 3).toNatClampNeg) (xs (f_add (nI (6 * j)) 4).toNatClampNeg) (xs (f_add (nI (6 * j)) 5).toNatClampNeg) i := k2
  have sm : sameB (decA (τ3 250)) (decA (τ3 251)) := fun i hi => by
    rw [p5 250 rfl, f2 i hi, k2 i hi]
    exact fd_same (fun j hj => by rw [f1 j hj, k1 j hj, p3 251 rfl]; exact hz.2.1 j hj) i hi
  exact K (upT τ3 202 40) h2 p4 ⟨RR_up 2 (by omega) upT_at (RB_mk sm (fun t ht => (upT_ne (nB_ne ht)).trans ((p5 t (ch_not ht)).trans (p3 t (ch_not2 ht)))) hz.2), Or.inl (Or.inr (mvH (k := 202) (c := 40) rfl (fun t ht => upT_ne ht) (by rw [upT_at]; rfl) (by decide) (by decide +kernel) q4))⟩

set_option maxRecDepth 100000 in
theorem g_law_feed_R1_40 {l : Launch} {Ls : Nat} {xs : Nat → Int32} {c18 : Blk} {τ : Nat → List (Option Nat)} {h : PH} {j : Nat} (hΦ : Φ τ) (hz : RR τ) (hj : 6 * j + 6 ≤ Ls) (hL : Ls ≤ 3072) (hh : all2 (gC ρ0 τ) HL_R1 h) (K : ∀ (τ2 : Nat → List (Option Nat)) (h2 : PH), Φ τ2 → HH τ2 h2 → c18 [some (.inr (some (.inr []))), some (.inr (some (.inl 0))), some (.inr (some (.inl 55))), some (.inl (f_add (nI (6 * j)) 6))] [] h2) (hs : (decA (τ 202) 0).toInt = 40) : b_L_law_207 l Ls xs c18 [some (.inr (some (.inr []))), some (.inr (some (.inl 0))), some (.inr (some (.inl 55))), some (.inl (nI (6 * j)))] [] h := by
  have hh := fxH (k := 202) (c := 40) (E := HL_R1_z40) rfl hs (by decide +kernel) hh
  refine And.intro (sv (k := 1) hj hL (by omega)) ?_
  refine And.intro (sv (k := 2) hj hL (by omega)) ?_
  refine And.intro (sv (k := 3) hj hL (by omega)) ?_
  refine And.intro (sv (k := 4) hj hL (by omega)) ?_
  refine And.intro (sv (k := 5) hj hL (by omega)) ?_
  refine callX (τ := τ) (xs := [(xs (f_add (nI (6 * j)) 1).toNatClampNeg), (xs (f_add (nI (6 * j)) 2).toNatClampNeg), (xs (f_add (nI (6 * j)) 3).toNatClampNeg), (xs (f_add (nI (6 * j)) 4).toNatClampNeg), (xs (f_add (nI (6 * j)) 5).toNatClampNeg)]) (rest := []) (a := 0) (ci := 10) (tm := tmO [3, 9, 14, 19, 24, 27, 29, 32, 35, 54, 39, 40, 47]) (H := HL_R1_z40) (H2 := HL_R1_f40) hΦ trivial (x_feedC (c := 40) (by omega)) hh (fun K h => h) rfl rfl rfl (by decide +kernel) (by decide +kernel) (by decide +kernel) (by decide +kernel) (fun τ2 p2 p3 v h1 qv q2 => ?_)
  refine And.intro (sv (k := 1) hj hL (by omega)) ?_
  refine And.intro (sv (k := 2) hj hL (by omega)) ?_
  refine And.intro (sv (k := 3) hj hL (by omega)) ?_
  refine And.intro (sv (k := 4) hj hL (by omega)) ?_
  refine And.intro (sv (k := 5) hj hL (by omega)) ?_
  refine callX (τ := τ2) (xs := [(xs (f_add (nI (6 * j)) 1).toNatClampNeg), (xs (f_add (nI (6 * j)) 2).toNatClampNeg), (xs (f_add (nI (6 * j)) 3).toNatClampNeg), (xs (f_add (nI (6 * j)) 4).toNatClampNeg), (xs (f_add (nI (6 * j)) 5).toNatClampNeg)]) (rest := []) (a := 55) (ci := 11) (tm := tmO [56, 57, 58, 59, 60, 61, 62, 63, 65, 66, 67, 68, 69, 70, 71, 72, 73, 74, 75, 76, 77, 78, 79, 80, 81, 82, 83, 84, 85, 86]) (H := HL_R1_f40) (H2 := HL_R1_z60) p2 trivial (x_feedR (c := 40) (by omega)) q2 (fun K h => h) rfl rfl rfl (by decide +kernel) (by decide +kernel) (by decide +kernel) (by decide +kernel) (fun τ3 p4 p5 w h2 qw q4 => ?_)
  obtain ⟨_, F, f1, f2⟩ := qv
  obtain ⟨_, G, k1, k2⟩ := qw
  have f1 : ∀ i, i < 260 → F i = decA (τ 250) i := f1
  have f2 : ∀ i, i < 260 → decA (τ2 250) i = fdC F 40 (xs (f_add (nI (6 * j)) 1).toNatClampNeg) (xs (f_add (nI (6 * j)) 2).toNatClampNeg) (xs (f_add (nI (6 * j)) 3).toNatClampNeg) (xs (f_add (nI (6 * j)) 4).toNatClampNeg) (xs (f_add (nI (6 * j)) 5).toNatClampNeg) i := f2
  have k1 : ∀ i, i < 260 → G i = decA (τ2 251) i := k1
  have k2 : ∀ i, i < 260 → decA (τ3 251) i = fdR G 40 (xs (f_add (nI (6 * j)) 1).toNatClampNeg) (xs (f_add (nI (6 * j)) 2).toNatClampNeg) (xs (f_add (nI (6 * j)) 3).toNatClampNeg) (xs (f_add (nI (6 * j)) 4).toNatClampNeg) (xs (f_add (nI (6 * j)) 5).toNatClampNeg) i := k2
  have sm : sameB (decA (τ3 250)) (decA (τ3 251)) := fun i hi => by
    rw [p5 250 rfl, f2 i hi, k2 i hi]
    exact fd_same (fun j hj => by rw [f1 j hj, k1 j hj, p3 251 rfl]; exact hz.2.1 j hj) i hi
  exact K (upT τ3 202 60) h2 p4 ⟨RR_up 3 (by omega) upT_at (RB_mk sm (fun t ht => (upT_ne (nB_ne ht)).trans ((p5 t (ch_not ht)).trans (p3 t (ch_not2 ht)))) hz.2), Or.inl (Or.inr (mvH (k := 202) (c := 60) rfl (fun t ht => upT_ne ht) (by rw [upT_at]; rfl) (by decide) (by decide +kernel) q4))⟩

set_option maxRecDepth 100000 in
theorem g_law_feed_R1_60 {l : Launch} {Ls : Nat} {xs : Nat → Int32} {c18 : Blk} {τ : Nat → List (Option Nat)} {h : PH} {j : Nat} (hΦ : Φ τ) (hz : RR τ) (hj : 6 * j + 6 ≤ Ls) (hL : Ls ≤ 3072) (hh : all2 (gC ρ0 τ) HL_R1 h) (K : ∀ (τ2 : Nat → List (Option Nat)) (h2 : PH), Φ τ2 → HH τ2 h2 → c18 [some (.inr (some (.inr []))), some (.inr (some (.inl 0))), some (.inr (some (.inl 55))), some (.inl (f_add (nI (6 * j)) 6))] [] h2) (hs : (decA (τ 202) 0).toInt = 60) : b_L_law_207 l Ls xs c18 [some (.inr (some (.inr []))), some (.inr (some (.inl 0))), some (.inr (some (.inl 55))), some (.inl (nI (6 * j)))] [] h := by
  have hh := fxH (k := 202) (c := 60) (E := HL_R1_z60) rfl hs (by decide +kernel) hh
  refine And.intro (sv (k := 1) hj hL (by omega)) ?_
  refine And.intro (sv (k := 2) hj hL (by omega)) ?_
  refine And.intro (sv (k := 3) hj hL (by omega)) ?_
  refine And.intro (sv (k := 4) hj hL (by omega)) ?_
  refine And.intro (sv (k := 5) hj hL (by omega)) ?_
  refine callX (τ := τ) (xs := [(xs (f_add (nI (6 * j)) 1).toNatClampNeg), (xs (f_add (nI (6 * j)) 2).toNatClampNeg), (xs (f_add (nI (6 * j)) 3).toNatClampNeg), (xs (f_add (nI (6 * j)) 4).toNatClampNeg), (xs (f_add (nI (6 * j)) 5).toNatClampNeg)]) (rest := []) (a := 0) (ci := 10) (tm := tmO [3, 9, 14, 19, 24, 27, 29, 32, 35, 54, 39, 40, 47]) (H := HL_R1_z60) (H2 := HL_R1_f60) hΦ trivial (x_feedC (c := 60) (by omega)) hh (fun K h => h) rfl rfl rfl (by decide +kernel) (by decide +kernel) (by decide +kernel) (by decide +kernel) (fun τ2 p2 p3 v h1 qv q2 => ?_)
  refine And.intro (sv (k := 1) hj hL (by omega)) ?_
  refine And.intro (sv (k := 2) hj hL (by omega)) ?_
  refine And.intro (sv (k := 3) hj hL (by omega)) ?_
  refine And.intro (sv (k := 4) hj hL (by omega)) ?_
  refine And.intro (sv (k := 5) hj hL (by omega)) ?_
  refine callX (τ := τ2) (xs := [(xs (f_add (nI (6 * j)) 1).toNatClampNeg), (xs (f_add (nI (6 * j)) 2).toNatClampNeg), (xs (f_add (nI (6 * j)) 3).toNatClampNeg), (xs (f_add (nI (6 * j)) 4).toNatClampNeg), (xs (f_add (nI (6 * j)) 5).toNatClampNeg)]) (rest := []) (a := 55) (ci := 11) (tm := tmO [56, 57, 58, 59, 60, 61, 62, 63, 65, 66, 67, 68, 69, 70, 71, 72, 73, 74, 75, 76, 77, 78, 79, 80, 81, 82, 83, 84, 85, 86]) (H := HL_R1_f60) (H2 := HL_R1_z80) p2 trivial (x_feedR (c := 60) (by omega)) q2 (fun K h => h) rfl rfl rfl (by decide +kernel) (by decide +kernel) (by decide +kernel) (by decide +kernel) (fun τ3 p4 p5 w h2 qw q4 => ?_)
  obtain ⟨_, F, f1, f2⟩ := qv
  obtain ⟨_, G, k1, k2⟩ := qw
  have f1 : ∀ i, i < 260 → F i = decA (τ 250) i := f1
  have f2 : ∀ i, i < 260 → decA (τ2 250) i = fdC F 60 (xs (f_add (nI (6 * j)) 1).toNatClampNeg) (xs (f_add (nI (6 * j)) 2).toNatClampNeg) (xs (f_add (nI (6 * j)) 3).toNatClampNeg) (xs (f_add (nI (6 * j)) 4).toNatClampNeg) (xs (f_add (nI (6 * j)) 5).toNatClampNeg) i := f2
  have k1 : ∀ i, i < 260 → G i = decA (τ2 251) i := k1
  have k2 : ∀ i, i < 260 → decA (τ3 251) i = fdR G 60 (xs (f_add (nI (6 * j)) 1).toNatClampNeg) (xs (f_add (nI (6 * j)) 2).toNatClampNeg) (xs (f_add (nI (6 * j)) 3).toNatClampNeg) (xs (f_add (nI (6 * j)) 4).toNatClampNeg) (xs (f_add (nI (6 * j)) 5).toNatClampNeg) i := k2
  have sm : sameB (decA (τ3 250)) (decA (τ3 251)) := fun i hi => by
    rw [p5 250 rfl, f2 i hi, k2 i hi]
    exact fd_same (fun j hj => by rw [f1 j hj, k1 j hj, p3 251 rfl]; exact hz.2.1 j hj) i hi
  exact K (upT τ3 202 80) h2 p4 ⟨RR_up 4 (by omega) upT_at (RB_mk sm (fun t ht => (upT_ne (nB_ne ht)).trans ((p5 t (ch_not ht)).trans (p3 t (ch_not2 ht)))) hz.2), Or.inl (Or.inr (mvH (k := 202) (c := 80) rfl (fun t ht => upT_ne ht) (by rw [upT_at]; rfl) (by decide) (by decide +kernel) q4))⟩

set_option maxRecDepth 100000 in
theorem g_law_feed_R1_80 {l : Launch} {Ls : Nat} {xs : Nat → Int32} {c18 : Blk} {τ : Nat → List (Option Nat)} {h : PH} {j : Nat} (hΦ : Φ τ) (hz : RR τ) (hj : 6 * j + 6 ≤ Ls) (hL : Ls ≤ 3072) (hh : all2 (gC ρ0 τ) HL_R1 h) (K : ∀ (τ2 : Nat → List (Option Nat)) (h2 : PH), Φ τ2 → HH τ2 h2 → c18 [some (.inr (some (.inr []))), some (.inr (some (.inl 0))), some (.inr (some (.inl 55))), some (.inl (f_add (nI (6 * j)) 6))] [] h2) (hs : (decA (τ 202) 0).toInt = 80) : b_L_law_207 l Ls xs c18 [some (.inr (some (.inr []))), some (.inr (some (.inl 0))), some (.inr (some (.inl 55))), some (.inl (nI (6 * j)))] [] h := by
  have hh := fxH (k := 202) (c := 80) (E := HL_R1_z80) rfl hs (by decide +kernel) hh
  refine And.intro (sv (k := 1) hj hL (by omega)) ?_
  refine And.intro (sv (k := 2) hj hL (by omega)) ?_
  refine And.intro (sv (k := 3) hj hL (by omega)) ?_
  refine And.intro (sv (k := 4) hj hL (by omega)) ?_
  refine And.intro (sv (k := 5) hj hL (by omega)) ?_
  refine callX (τ := τ) (xs := [(xs (f_add (nI (6 * j)) 1).toNatClampNeg), (xs (f_add (nI (6 * j)) 2).toNatClampNeg), (xs (f_add (nI (6 * j)) 3).toNatClampNeg), (xs (f_add (nI (6 * j)) 4).toNatClampNeg), (xs (f_add (nI (6 * j)) 5).toNatClampNeg)]) (rest := []) (a := 0) (ci := 10) (tm := tmO [3, 9, 14, 19, 24, 27, 29, 32, 35, 54, 39, 40, 47]) (H := HL_R1_z80) (H2 := HL_R1_f80) hΦ trivial (x_feedC (c := 80) (by omega)) hh (fun K h => h) rfl rfl rfl (by decide +kernel) (by decide +kernel) (by decide +kernel) (by decide +kernel) (fun τ2 p2 p3 v h1 qv q2 => ?_)
  refine And.intro (sv (k := 1) hj hL (by omega)) ?_
  refine And.intro (sv (k := 2) hj hL (by omega)) ?_
  refine And.intro (sv (k := 3) hj hL (by omega)) ?_
  refine And.intro (sv (k := 4) hj hL (by omega)) ?_
  refine And.intro (sv (k := 5) hj hL (by omega)) ?_
  refine callX (τ := τ2) (xs := [(xs (f_add (nI (6 * j)) 1).toNatClampNeg), (xs (f_add (nI (6 * j)) 2).toNatClampNeg), (xs (f_add (nI (6 * j)) 3).toNatClampNeg), (xs (f_add (nI (6 * j)) 4).toNatClampNeg), (xs (f_add (nI (6 * j)) 5).toNatClampNeg)]) (rest := []) (a := 55) (ci := 11) (tm := tmO [56, 57, 58, 59, 60, 61, 62, 63, 65, 66, 67, 68, 69, 70, 71, 72, 73, 74, 75, 76, 77, 78, 79, 80, 81, 82, 83, 84, 85, 86]) (H := HL_R1_f80) (H2 := HL_R1_z100) p2 trivial (x_feedR (c := 80) (by omega)) q2 (fun K h => h) rfl rfl rfl (by decide +kernel) (by decide +kernel) (by decide +kernel) (by decide +kernel) (fun τ3 p4 p5 w h2 qw q4 => ?_)
  obtain ⟨_, F, f1, f2⟩ := qv
  obtain ⟨_, G, k1, k2⟩ := qw
  have f1 : ∀ i, i < 260 → F i = decA (τ 250) i := f1
  have f2 : ∀ i, i < 260 → decA (τ2 250) i = fdC F 80 (xs (f_add (nI (6 * j)) 1).toNatClampNeg) (xs (f_add (nI (6 * j)) 2).toNatClampNeg) (xs (f_add (nI (6 * j)) 3).toNatClampNeg) (xs (f_add (nI (6 * j)) 4).toNatClampNeg) (xs (f_add (nI (6 * j)) 5).toNatClampNeg) i := f2
  have k1 : ∀ i, i < 260 → G i = decA (τ2 251) i := k1
  have k2 : ∀ i, i < 260 → decA (τ3 251) i = fdR G 80 (xs (f_add (nI (6 * j)) 1).toNatClampNeg) (xs (f_add (nI (6 * j)) 2).toNatClampNeg) (xs (f_add (nI (6 * j)) 3).toNatClampNeg) (xs (f_add (nI (6 * j)) 4).toNatClampNeg) (xs (f_add (nI (6 * j)) 5).toNatClampNeg) i := k2
  have sm : sameB (decA (τ3 250)) (decA (τ3 251)) := fun i hi => by
    rw [p5 250 rfl, f2 i hi, k2 i hi]
    exact fd_same (fun j hj => by rw [f1 j hj, k1 j hj, p3 251 rfl]; exact hz.2.1 j hj) i hi
  exact K (upT τ3 202 100) h2 p4 ⟨RR_up 5 (by omega) upT_at (RB_mk sm (fun t ht => (upT_ne (nB_ne ht)).trans ((p5 t (ch_not ht)).trans (p3 t (ch_not2 ht)))) hz.2), Or.inl (Or.inr (mvH (k := 202) (c := 100) rfl (fun t ht => upT_ne ht) (by rw [upT_at]; rfl) (by decide) (by decide +kernel) q4))⟩

set_option maxRecDepth 100000 in
theorem g_law_feed_R1_100 {l : Launch} {Ls : Nat} {xs : Nat → Int32} {c18 : Blk} {τ : Nat → List (Option Nat)} {h : PH} {j : Nat} (hΦ : Φ τ) (hz : RR τ) (hj : 6 * j + 6 ≤ Ls) (hL : Ls ≤ 3072) (hh : all2 (gC ρ0 τ) HL_R1 h) (K : ∀ (τ2 : Nat → List (Option Nat)) (h2 : PH), Φ τ2 → HH τ2 h2 → c18 [some (.inr (some (.inr []))), some (.inr (some (.inl 0))), some (.inr (some (.inl 55))), some (.inl (f_add (nI (6 * j)) 6))] [] h2) (hs : (decA (τ 202) 0).toInt = 100) : b_L_law_207 l Ls xs c18 [some (.inr (some (.inr []))), some (.inr (some (.inl 0))), some (.inr (some (.inl 55))), some (.inl (nI (6 * j)))] [] h := by
  have hh := fxH (k := 202) (c := 100) (E := HL_R1_z100) rfl hs (by decide +kernel) hh
  refine And.intro (sv (k := 1) hj hL (by omega)) ?_
  refine And.intro (sv (k := 2) hj hL (by omega)) ?_
  refine And.intro (sv (k := 3) hj hL (by omega)) ?_
  refine And.intro (sv (k := 4) hj hL (by omega)) ?_
  refine And.intro (sv (k := 5) hj hL (by omega)) ?_
  refine callX (τ := τ) (xs := [(xs (f_add (nI (6 * j)) 1).toNatClampNeg), (xs (f_add (nI (6 * j)) 2).toNatClampNeg), (xs (f_add (nI (6 * j)) 3).toNatClampNeg), (xs (f_add (nI (6 * j)) 4).toNatClampNeg), (xs (f_add (nI (6 * j)) 5).toNatClampNeg)]) (rest := []) (a := 0) (ci := 10) (tm := tmO [3, 9, 14, 19, 24, 27, 29, 32, 35, 54, 39, 40, 47]) (H := HL_R1_z100) (H2 := HL_R1_f100) hΦ trivial (x_feedC (c := 100) (by omega)) hh (fun K h => h) rfl rfl rfl (by decide +kernel) (by decide +kernel) (by decide +kernel) (by decide +kernel) (fun τ2 p2 p3 v h1 qv q2 => ?_)
  refine And.intro (sv (k := 1) hj hL (by omega)) ?_
  refine And.intro (sv (k := 2) hj hL (by omega)) ?_
  refine And.intro (sv (k := 3) hj hL (by omega)) ?_
  refine And.intro (sv (k := 4) hj hL (by omega)) ?_
  refine And.intro (sv (k := 5) hj hL (by omega)) ?_
  refine callX (τ := τ2) (xs := [(xs (f_add (nI (6 * j)) 1).toNatClampNeg), (xs (f_add (nI (6 * j)) 2).toNatClampNeg), (xs (f_add (nI (6 * j)) 3).toNatClampNeg), (xs (f_add (nI (6 * j)) 4).toNatClampNeg), (xs (f_add (nI (6 * j)) 5).toNatClampNeg)]) (rest := []) (a := 55) (ci := 11) (tm := tmO [56, 57, 58, 59, 60, 61, 62, 63, 65, 66, 67, 68, 69, 70, 71, 72, 73, 74, 75, 76, 77, 78, 79, 80, 81, 82, 83, 84, 85, 86]) (H := HL_R1_f100) (H2 := HL_R1_z120) p2 trivial (x_feedR (c := 100) (by omega)) q2 (fun K h => h) rfl rfl rfl (by decide +kernel) (by decide +kernel) (by decide +kernel) (by decide +kernel) (fun τ3 p4 p5 w h2 qw q4 => ?_)
  obtain ⟨_, F, f1, f2⟩ := qv
  obtain ⟨_, G, k1, k2⟩ := qw
  have f1 : ∀ i, i < 260 → F i = decA (τ 250) i := f1
  have f2 : ∀ i, i < 260 → decA (τ2 250) i = fdC F 100 (xs (f_add (nI (6 * j)) 1).toNatClampNeg) (xs (f_add (nI (6 * j)) 2).toNatClampNeg) (xs (f_add (nI (6 * j)) 3).toNatClampNeg) (xs (f_add (nI (6 * j)) 4).toNatClampNeg) (xs (f_add (nI (6 * j)) 5).toNatClampNeg) i := f2
  have k1 : ∀ i, i < 260 → G i = decA (τ2 251) i := k1
  have k2 : ∀ i, i < 260 → decA (τ3 251) i = fdR G 100 (xs (f_add (nI (6 * j)) 1).toNatClampNeg) (xs (f_add (nI (6 * j)) 2).toNatClampNeg) (xs (f_add (nI (6 * j)) 3).toNatClampNeg) (xs (f_add (nI (6 * j)) 4).toNatClampNeg) (xs (f_add (nI (6 * j)) 5).toNatClampNeg) i := k2
  have sm : sameB (decA (τ3 250)) (decA (τ3 251)) := fun i hi => by
    rw [p5 250 rfl, f2 i hi, k2 i hi]
    exact fd_same (fun j hj => by rw [f1 j hj, k1 j hj, p3 251 rfl]; exact hz.2.1 j hj) i hi
  exact K (upT τ3 202 120) h2 p4 ⟨RR_up 6 (by omega) upT_at (RB_mk sm (fun t ht => (upT_ne (nB_ne ht)).trans ((p5 t (ch_not ht)).trans (p3 t (ch_not2 ht)))) hz.2), Or.inl (Or.inr (mvH (k := 202) (c := 120) rfl (fun t ht => upT_ne ht) (by rw [upT_at]; rfl) (by decide) (by decide +kernel) q4))⟩

set_option maxRecDepth 100000 in
theorem g_law_feed_R1_120 {l : Launch} {Ls : Nat} {xs : Nat → Int32} {c18 : Blk} {τ : Nat → List (Option Nat)} {h : PH} {j : Nat} (hΦ : Φ τ) (hz : RR τ) (hj : 6 * j + 6 ≤ Ls) (hL : Ls ≤ 3072) (hh : all2 (gC ρ0 τ) HL_R1 h) (K : ∀ (τ2 : Nat → List (Option Nat)) (h2 : PH), Φ τ2 → HH τ2 h2 → c18 [some (.inr (some (.inr []))), some (.inr (some (.inl 0))), some (.inr (some (.inl 55))), some (.inl (f_add (nI (6 * j)) 6))] [] h2) (hs : (decA (τ 202) 0).toInt = 120) : b_L_law_207 l Ls xs c18 [some (.inr (some (.inr []))), some (.inr (some (.inl 0))), some (.inr (some (.inl 55))), some (.inl (nI (6 * j)))] [] h := by
  have hh := fxH (k := 202) (c := 120) (E := HL_R1_z120) rfl hs (by decide +kernel) hh
  refine And.intro (sv (k := 1) hj hL (by omega)) ?_
  refine And.intro (sv (k := 2) hj hL (by omega)) ?_
  refine And.intro (sv (k := 3) hj hL (by omega)) ?_
  refine And.intro (sv (k := 4) hj hL (by omega)) ?_
  refine And.intro (sv (k := 5) hj hL (by omega)) ?_
  refine callX (τ := τ) (xs := [(xs (f_add (nI (6 * j)) 1).toNatClampNeg), (xs (f_add (nI (6 * j)) 2).toNatClampNeg), (xs (f_add (nI (6 * j)) 3).toNatClampNeg), (xs (f_add (nI (6 * j)) 4).toNatClampNeg), (xs (f_add (nI (6 * j)) 5).toNatClampNeg)]) (rest := []) (a := 0) (ci := 10) (tm := tmO [3, 9, 14, 19, 24, 27, 29, 32, 35, 54, 39, 40, 47]) (H := HL_R1_z120) (H2 := HL_R1_f120) hΦ trivial (x_feedC (c := 120) (by omega)) hh (fun K h => h) rfl rfl rfl (by decide +kernel) (by decide +kernel) (by decide +kernel) (by decide +kernel) (fun τ2 p2 p3 v h1 qv q2 => ?_)
  refine And.intro (sv (k := 1) hj hL (by omega)) ?_
  refine And.intro (sv (k := 2) hj hL (by omega)) ?_
  refine And.intro (sv (k := 3) hj hL (by omega)) ?_
  refine And.intro (sv (k := 4) hj hL (by omega)) ?_
  refine And.intro (sv (k := 5) hj hL (by omega)) ?_
  refine callX (τ := τ2) (xs := [(xs (f_add (nI (6 * j)) 1).toNatClampNeg), (xs (f_add (nI (6 * j)) 2).toNatClampNeg), (xs (f_add (nI (6 * j)) 3).toNatClampNeg), (xs (f_add (nI (6 * j)) 4).toNatClampNeg), (xs (f_add (nI (6 * j)) 5).toNatClampNeg)]) (rest := []) (a := 55) (ci := 11) (tm := tmO [56, 57, 58, 59, 60, 61, 62, 63, 65, 66, 67, 68, 69, 70, 71, 72, 73, 74, 75, 76, 77, 78, 79, 80, 81, 82, 83, 84, 85, 86]) (H := HL_R1_f120) (H2 := HL_R1_z140) p2 trivial (x_feedR (c := 120) (by omega)) q2 (fun K h => h) rfl rfl rfl (by decide +kernel) (by decide +kernel) (by decide +kernel) (by decide +kernel) (fun τ3 p4 p5 w h2 qw q4 => ?_)
  obtain ⟨_, F, f1, f2⟩ := qv
  obtain ⟨_, G, k1, k2⟩ := qw
  have f1 : ∀ i, i < 260 → F i = decA (τ 250) i := f1
  have f2 : ∀ i, i < 260 → decA (τ2 250) i = fdC F 120 (xs (f_add (nI (6 * j)) 1).toNatClampNeg) (xs (f_add (nI (6 * j)) 2).toNatClampNeg) (xs (f_add (nI (6 * j)) 3).toNatClampNeg) (xs (f_add (nI (6 * j)) 4).toNatClampNeg) (xs (f_add (nI (6 * j)) 5).toNatClampNeg) i := f2
  have k1 : ∀ i, i < 260 → G i = decA (τ2 251) i := k1
  have k2 : ∀ i, i < 260 → decA (τ3 251) i = fdR G 120 (xs (f_add (nI (6 * j)) 1).toNatClampNeg) (xs (f_add (nI (6 * j)) 2).toNatClampNeg) (xs (f_add (nI (6 * j)) 3).toNatClampNeg) (xs (f_add (nI (6 * j)) 4).toNatClampNeg) (xs (f_add (nI (6 * j)) 5).toNatClampNeg) i := k2
  have sm : sameB (decA (τ3 250)) (decA (τ3 251)) := fun i hi => by
    rw [p5 250 rfl, f2 i hi, k2 i hi]
    exact fd_same (fun j hj => by rw [f1 j hj, k1 j hj, p3 251 rfl]; exact hz.2.1 j hj) i hi
  exact K (upT τ3 202 140) h2 p4 ⟨RR_up 7 (by omega) upT_at (RB_mk sm (fun t ht => (upT_ne (nB_ne ht)).trans ((p5 t (ch_not ht)).trans (p3 t (ch_not2 ht)))) hz.2), Or.inl (Or.inr (mvH (k := 202) (c := 140) rfl (fun t ht => upT_ne ht) (by rw [upT_at]; rfl) (by decide) (by decide +kernel) q4))⟩

set_option maxRecDepth 100000 in
theorem g_law_feed_R1_140 {l : Launch} {Ls : Nat} {xs : Nat → Int32} {c18 : Blk} {τ : Nat → List (Option Nat)} {h : PH} {j : Nat} (hΦ : Φ τ) (hz : RR τ) (hj : 6 * j + 6 ≤ Ls) (hL : Ls ≤ 3072) (hh : all2 (gC ρ0 τ) HL_R1 h) (K : ∀ (τ2 : Nat → List (Option Nat)) (h2 : PH), Φ τ2 → HH τ2 h2 → c18 [some (.inr (some (.inr []))), some (.inr (some (.inl 0))), some (.inr (some (.inl 55))), some (.inl (f_add (nI (6 * j)) 6))] [] h2) (hs : (decA (τ 202) 0).toInt = 140) : b_L_law_207 l Ls xs c18 [some (.inr (some (.inr []))), some (.inr (some (.inl 0))), some (.inr (some (.inl 55))), some (.inl (nI (6 * j)))] [] h := by
  have hh := fxH (k := 202) (c := 140) (E := HL_R1_z140) rfl hs (by decide +kernel) hh
  refine And.intro (sv (k := 1) hj hL (by omega)) ?_
  refine And.intro (sv (k := 2) hj hL (by omega)) ?_
  refine And.intro (sv (k := 3) hj hL (by omega)) ?_
  refine And.intro (sv (k := 4) hj hL (by omega)) ?_
  refine And.intro (sv (k := 5) hj hL (by omega)) ?_
  refine callX (τ := τ) (xs := [(xs (f_add (nI (6 * j)) 1).toNatClampNeg), (xs (f_add (nI (6 * j)) 2).toNatClampNeg), (xs (f_add (nI (6 * j)) 3).toNatClampNeg), (xs (f_add (nI (6 * j)) 4).toNatClampNeg), (xs (f_add (nI (6 * j)) 5).toNatClampNeg)]) (rest := []) (a := 0) (ci := 10) (tm := tmO [3, 9, 14, 19, 24, 27, 29, 32, 35, 54, 39, 40, 47]) (H := HL_R1_z140) (H2 := HL_R1_f140) hΦ trivial (x_feedC (c := 140) (by omega)) hh (fun K h => h) rfl rfl rfl (by decide +kernel) (by decide +kernel) (by decide +kernel) (by decide +kernel) (fun τ2 p2 p3 v h1 qv q2 => ?_)
  refine And.intro (sv (k := 1) hj hL (by omega)) ?_
  refine And.intro (sv (k := 2) hj hL (by omega)) ?_
  refine And.intro (sv (k := 3) hj hL (by omega)) ?_
  refine And.intro (sv (k := 4) hj hL (by omega)) ?_
  refine And.intro (sv (k := 5) hj hL (by omega)) ?_
  refine callX (τ := τ2) (xs := [(xs (f_add (nI (6 * j)) 1).toNatClampNeg), (xs (f_add (nI (6 * j)) 2).toNatClampNeg), (xs (f_add (nI (6 * j)) 3).toNatClampNeg), (xs (f_add (nI (6 * j)) 4).toNatClampNeg), (xs (f_add (nI (6 * j)) 5).toNatClampNeg)]) (rest := []) (a := 55) (ci := 11) (tm := tmO [56, 57, 58, 59, 60, 61, 62, 63, 65, 66, 67, 68, 69, 70, 71, 72, 73, 74, 75, 76, 77, 78, 79, 80, 81, 82, 83, 84, 85, 86]) (H := HL_R1_f140) (H2 := HL_R1_z160) p2 trivial (x_feedR (c := 140) (by omega)) q2 (fun K h => h) rfl rfl rfl (by decide +kernel) (by decide +kernel) (by decide +kernel) (by decide +kernel) (fun τ3 p4 p5 w h2 qw q4 => ?_)
  obtain ⟨_, F, f1, f2⟩ := qv
  obtain ⟨_, G, k1, k2⟩ := qw
  have f1 : ∀ i, i < 260 → F i = decA (τ 250) i := f1
  have f2 : ∀ i, i < 260 → decA (τ2 250) i = fdC F 140 (xs (f_add (nI (6 * j)) 1).toNatClampNeg) (xs (f_add (nI (6 * j)) 2).toNatClampNeg) (xs (f_add (nI (6 * j)) 3).toNatClampNeg) (xs (f_add (nI (6 * j)) 4).toNatClampNeg) (xs (f_add (nI (6 * j)) 5).toNatClampNeg) i := f2
  have k1 : ∀ i, i < 260 → G i = decA (τ2 251) i := k1
  have k2 : ∀ i, i < 260 → decA (τ3 251) i = fdR G 140 (xs (f_add (nI (6 * j)) 1).toNatClampNeg) (xs (f_add (nI (6 * j)) 2).toNatClampNeg) (xs (f_add (nI (6 * j)) 3).toNatClampNeg) (xs (f_add (nI (6 * j)) 4).toNatClampNeg) (xs (f_add (nI (6 * j)) 5).toNatClampNeg) i := k2
  have sm : sameB (decA (τ3 250)) (decA (τ3 251)) := fun i hi => by
    rw [p5 250 rfl, f2 i hi, k2 i hi]
    exact fd_same (fun j hj => by rw [f1 j hj, k1 j hj, p3 251 rfl]; exact hz.2.1 j hj) i hi
  exact K (upT τ3 202 160) h2 p4 ⟨RR_up 8 (by omega) upT_at (RB_mk sm (fun t ht => (upT_ne (nB_ne ht)).trans ((p5 t (ch_not ht)).trans (p3 t (ch_not2 ht)))) hz.2), Or.inl (Or.inr (mvH (k := 202) (c := 160) rfl (fun t ht => upT_ne ht) (by rw [upT_at]; rfl) (by decide) (by decide +kernel) q4))⟩

set_option maxRecDepth 100000 in
theorem g_law_feed_R1_160 {l : Launch} {Ls : Nat} {xs : Nat → Int32} {c18 : Blk} {τ : Nat → List (Option Nat)} {h : PH} {j : Nat} (hΦ : Φ τ) (hz : RR τ) (hj : 6 * j + 6 ≤ Ls) (hL : Ls ≤ 3072) (hh : all2 (gC ρ0 τ) HL_R1 h) (K : ∀ (τ2 : Nat → List (Option Nat)) (h2 : PH), Φ τ2 → HH τ2 h2 → c18 [some (.inr (some (.inr []))), some (.inr (some (.inl 0))), some (.inr (some (.inl 55))), some (.inl (f_add (nI (6 * j)) 6))] [] h2) (hs : (decA (τ 202) 0).toInt = 160) : b_L_law_207 l Ls xs c18 [some (.inr (some (.inr []))), some (.inr (some (.inl 0))), some (.inr (some (.inl 55))), some (.inl (nI (6 * j)))] [] h := by
  have hh := fxH (k := 202) (c := 160) (E := HL_R1_z160) rfl hs (by decide +kernel) hh
  refine And.intro (sv (k := 1) hj hL (by omega)) ?_
  refine And.intro (sv (k := 2) hj hL (by omega)) ?_
  refine And.intro (sv (k := 3) hj hL (by omega)) ?_
  refine And.intro (sv (k := 4) hj hL (by omega)) ?_
  refine And.intro (sv (k := 5) hj hL (by omega)) ?_
  refine callX (τ := τ) (xs := [(xs (f_add (nI (6 * j)) 1).toNatClampNeg), (xs (f_add (nI (6 * j)) 2).toNatClampNeg), (xs (f_add (nI (6 * j)) 3).toNatClampNeg), (xs (f_add (nI (6 * j)) 4).toNatClampNeg), (xs (f_add (nI (6 * j)) 5).toNatClampNeg)]) (rest := []) (a := 0) (ci := 10) (tm := tmO [3, 9, 14, 19, 24, 27, 29, 32, 35, 54, 39, 40, 47]) (H := HL_R1_z160) (H2 := HL_R1_f160) hΦ trivial (x_feedC (c := 160) (by omega)) hh (fun K h => h) rfl rfl rfl (by decide +kernel) (by decide +kernel) (by decide +kernel) (by decide +kernel) (fun τ2 p2 p3 v h1 qv q2 => ?_)
  refine And.intro (sv (k := 1) hj hL (by omega)) ?_
  refine And.intro (sv (k := 2) hj hL (by omega)) ?_
  refine And.intro (sv (k := 3) hj hL (by omega)) ?_
  refine And.intro (sv (k := 4) hj hL (by omega)) ?_
  refine And.intro (sv (k := 5) hj hL (by omega)) ?_
  refine callX (τ := τ2) (xs := [(xs (f_add (nI (6 * j)) 1).toNatClampNeg), (xs (f_add (nI (6 * j)) 2).toNatClampNeg), (xs (f_add (nI (6 * j)) 3).toNatClampNeg), (xs (f_add (nI (6 * j)) 4).toNatClampNeg), (xs (f_add (nI (6 * j)) 5).toNatClampNeg)]) (rest := []) (a := 55) (ci := 11) (tm := tmO [56, 57, 58, 59, 60, 61, 62, 63, 65, 66, 67, 68, 69, 70, 71, 72, 73, 74, 75, 76, 77, 78, 79, 80, 81, 82, 83, 84, 85, 86]) (H := HL_R1_f160) (H2 := HL_R1_z180) p2 trivial (x_feedR (c := 160) (by omega)) q2 (fun K h => h) rfl rfl rfl (by decide +kernel) (by decide +kernel) (by decide +kernel) (by decide +kernel) (fun τ3 p4 p5 w h2 qw q4 => ?_)
  obtain ⟨_, F, f1, f2⟩ := qv
  obtain ⟨_, G, k1, k2⟩ := qw
  have f1 : ∀ i, i < 260 → F i = decA (τ 250) i := f1
  have f2 : ∀ i, i < 260 → decA (τ2 250) i = fdC F 160 (xs (f_add (nI (6 * j)) 1).toNatClampNeg) (xs (f_add (nI (6 * j)) 2).toNatClampNeg) (xs (f_add (nI (6 * j)) 3).toNatClampNeg) (xs (f_add (nI (6 * j)) 4).toNatClampNeg) (xs (f_add (nI (6 * j)) 5).toNatClampNeg) i := f2
  have k1 : ∀ i, i < 260 → G i = decA (τ2 251) i := k1
  have k2 : ∀ i, i < 260 → decA (τ3 251) i = fdR G 160 (xs (f_add (nI (6 * j)) 1).toNatClampNeg) (xs (f_add (nI (6 * j)) 2).toNatClampNeg) (xs (f_add (nI (6 * j)) 3).toNatClampNeg) (xs (f_add (nI (6 * j)) 4).toNatClampNeg) (xs (f_add (nI (6 * j)) 5).toNatClampNeg) i := k2
  have sm : sameB (decA (τ3 250)) (decA (τ3 251)) := fun i hi => by
    rw [p5 250 rfl, f2 i hi, k2 i hi]
    exact fd_same (fun j hj => by rw [f1 j hj, k1 j hj, p3 251 rfl]; exact hz.2.1 j hj) i hi
  exact K (upT τ3 202 180) h2 p4 ⟨RR_up 9 (by omega) upT_at (RB_mk sm (fun t ht => (upT_ne (nB_ne ht)).trans ((p5 t (ch_not ht)).trans (p3 t (ch_not2 ht)))) hz.2), Or.inl (Or.inr (mvH (k := 202) (c := 180) rfl (fun t ht => upT_ne ht) (by rw [upT_at]; rfl) (by decide) (by decide +kernel) q4))⟩

set_option maxRecDepth 100000 in
theorem g_law_feed_R1_180 {l : Launch} {Ls : Nat} {xs : Nat → Int32} {c18 : Blk} {τ : Nat → List (Option Nat)} {h : PH} {j : Nat} (hΦ : Φ τ) (hz : RR τ) (hj : 6 * j + 6 ≤ Ls) (hL : Ls ≤ 3072) (hh : all2 (gC ρ0 τ) HL_R1 h) (K : ∀ (τ2 : Nat → List (Option Nat)) (h2 : PH), Φ τ2 → HH τ2 h2 → c18 [some (.inr (some (.inr []))), some (.inr (some (.inl 0))), some (.inr (some (.inl 55))), some (.inl (f_add (nI (6 * j)) 6))] [] h2) (hs : (decA (τ 202) 0).toInt = 180) : b_L_law_207 l Ls xs c18 [some (.inr (some (.inr []))), some (.inr (some (.inl 0))), some (.inr (some (.inl 55))), some (.inl (nI (6 * j)))] [] h := by
  have hh := fxH (k := 202) (c := 180) (E := HL_R1_z180) rfl hs (by decide +kernel) hh
  refine And.intro (sv (k := 1) hj hL (by omega)) ?_
  refine And.intro (sv (k := 2) hj hL (by omega)) ?_
  refine And.intro (sv (k := 3) hj hL (by omega)) ?_
  refine And.intro (sv (k := 4) hj hL (by omega)) ?_
  refine And.intro (sv (k := 5) hj hL (by omega)) ?_
  refine callX (τ := τ) (xs := [(xs (f_add (nI (6 * j)) 1).toNatClampNeg), (xs (f_add (nI (6 * j)) 2).toNatClampNeg), (xs (f_add (nI (6 * j)) 3).toNatClampNeg), (xs (f_add (nI (6 * j)) 4).toNatClampNeg), (xs (f_add (nI (6 * j)) 5).toNatClampNeg)]) (rest := []) (a := 0) (ci := 10) (tm := tmO [3, 9, 14, 19, 24, 27, 29, 32, 35, 54, 39, 40, 47]) (H := HL_R1_z180) (H2 := HL_R1_f180) hΦ trivial (x_feedC (c := 180) (by omega)) hh (fun K h => h) rfl rfl rfl (by decide +kernel) (by decide +kernel) (by decide +kernel) (by decide +kernel) (fun τ2 p2 p3 v h1 qv q2 => ?_)
  refine And.intro (sv (k := 1) hj hL (by omega)) ?_
  refine And.intro (sv (k := 2) hj hL (by omega)) ?_
  refine And.intro (sv (k := 3) hj hL (by omega)) ?_
  refine And.intro (sv (k := 4) hj hL (by omega)) ?_
  refine And.intro (sv (k := 5) hj hL (by omega)) ?_
  refine callX (τ := τ2) (xs := [(xs (f_add (nI (6 * j)) 1).toNatClampNeg), (xs (f_add (nI (6 * j)) 2).toNatClampNeg), (xs (f_add (nI (6 * j)) 3).toNatClampNeg), (xs (f_add (nI (6 * j)) 4).toNatClampNeg), (xs (f_add (nI (6 * j)) 5).toNatClampNeg)]) (rest := []) (a := 55) (ci := 11) (tm := tmO [56, 57, 58, 59, 60, 61, 62, 63, 65, 66, 67, 68, 69, 70, 71, 72, 73, 74, 75, 76, 77, 78, 79, 80, 81, 82, 83, 84, 85, 86]) (H := HL_R1_f180) (H2 := HL_R1_z200) p2 trivial (x_feedR (c := 180) (by omega)) q2 (fun K h => h) rfl rfl rfl (by decide +kernel) (by decide +kernel) (by decide +kernel) (by decide +kernel) (fun τ3 p4 p5 w h2 qw q4 => ?_)
  obtain ⟨_, F, f1, f2⟩ := qv
  obtain ⟨_, G, k1, k2⟩ := qw
  have f1 : ∀ i, i < 260 → F i = decA (τ 250) i := f1
  have f2 : ∀ i, i < 260 → decA (τ2 250) i = fdC F 180 (xs (f_add (nI (6 * j)) 1).toNatClampNeg) (xs (f_add (nI (6 * j)) 2).toNatClampNeg) (xs (f_add (nI (6 * j)) 3).toNatClampNeg) (xs (f_add (nI (6 * j)) 4).toNatClampNeg) (xs (f_add (nI (6 * j)) 5).toNatClampNeg) i := f2
  have k1 : ∀ i, i < 260 → G i = decA (τ2 251) i := k1
  have k2 : ∀ i, i < 260 → decA (τ3 251) i = fdR G 180 (xs (f_add (nI (6 * j)) 1).toNatClampNeg) (xs (f_add (nI (6 * j)) 2).toNatClampNeg) (xs (f_add (nI (6 * j)) 3).toNatClampNeg) (xs (f_add (nI (6 * j)) 4).toNatClampNeg) (xs (f_add (nI (6 * j)) 5).toNatClampNeg) i := k2
  have sm : sameB (decA (τ3 250)) (decA (τ3 251)) := fun i hi => by
    rw [p5 250 rfl, f2 i hi, k2 i hi]
    exact fd_same (fun j hj => by rw [f1 j hj, k1 j hj, p3 251 rfl]; exact hz.2.1 j hj) i hi
  exact K (upT τ3 202 200) h2 p4 ⟨RR_up 10 (by omega) upT_at (RB_mk sm (fun t ht => (upT_ne (nB_ne ht)).trans ((p5 t (ch_not ht)).trans (p3 t (ch_not2 ht)))) hz.2), Or.inl (Or.inr (mvH (k := 202) (c := 200) rfl (fun t ht => upT_ne ht) (by rw [upT_at]; rfl) (by decide) (by decide +kernel) q4))⟩

set_option maxRecDepth 100000 in
theorem g_law_feed_R1_200 {l : Launch} {Ls : Nat} {xs : Nat → Int32} {c18 : Blk} {τ : Nat → List (Option Nat)} {h : PH} {j : Nat} (hΦ : Φ τ) (hz : RR τ) (hj : 6 * j + 6 ≤ Ls) (hL : Ls ≤ 3072) (hh : all2 (gC ρ0 τ) HL_R1 h) (K : ∀ (τ2 : Nat → List (Option Nat)) (h2 : PH), Φ τ2 → HH τ2 h2 → c18 [some (.inr (some (.inr []))), some (.inr (some (.inl 0))), some (.inr (some (.inl 55))), some (.inl (f_add (nI (6 * j)) 6))] [] h2) (hs : (decA (τ 202) 0).toInt = 200) : b_L_law_207 l Ls xs c18 [some (.inr (some (.inr []))), some (.inr (some (.inl 0))), some (.inr (some (.inl 55))), some (.inl (nI (6 * j)))] [] h := by
  have hh := fxH (k := 202) (c := 200) (E := HL_R1_z200) rfl hs (by decide +kernel) hh
  refine And.intro (sv (k := 1) hj hL (by omega)) ?_
  refine And.intro (sv (k := 2) hj hL (by omega)) ?_
  refine And.intro (sv (k := 3) hj hL (by omega)) ?_
  refine And.intro (sv (k := 4) hj hL (by omega)) ?_
  refine And.intro (sv (k := 5) hj hL (by omega)) ?_
  refine callX (τ := τ) (xs := [(xs (f_add (nI (6 * j)) 1).toNatClampNeg), (xs (f_add (nI (6 * j)) 2).toNatClampNeg), (xs (f_add (nI (6 * j)) 3).toNatClampNeg), (xs (f_add (nI (6 * j)) 4).toNatClampNeg), (xs (f_add (nI (6 * j)) 5).toNatClampNeg)]) (rest := []) (a := 0) (ci := 10) (tm := tmO [3, 9, 14, 19, 24, 27, 29, 32, 35, 54, 39, 40, 47]) (H := HL_R1_z200) (H2 := HL_R1_f200) hΦ trivial (x_feedC (c := 200) (by omega)) hh (fun K h => h) rfl rfl rfl (by decide +kernel) (by decide +kernel) (by decide +kernel) (by decide +kernel) (fun τ2 p2 p3 v h1 qv q2 => ?_)
  refine And.intro (sv (k := 1) hj hL (by omega)) ?_
  refine And.intro (sv (k := 2) hj hL (by omega)) ?_
  refine And.intro (sv (k := 3) hj hL (by omega)) ?_
  refine And.intro (sv (k := 4) hj hL (by omega)) ?_
  refine And.intro (sv (k := 5) hj hL (by omega)) ?_
  refine callX (τ := τ2) (xs := [(xs (f_add (nI (6 * j)) 1).toNatClampNeg), (xs (f_add (nI (6 * j)) 2).toNatClampNeg), (xs (f_add (nI (6 * j)) 3).toNatClampNeg), (xs (f_add (nI (6 * j)) 4).toNatClampNeg), (xs (f_add (nI (6 * j)) 5).toNatClampNeg)]) (rest := []) (a := 55) (ci := 11) (tm := tmO [56, 57, 58, 59, 60, 61, 62, 63, 65, 66, 67, 68, 69, 70, 71, 72, 73, 74, 75, 76, 77, 78, 79, 80, 81, 82, 83, 84, 85, 86]) (H := HL_R1_f200) (H2 := HL_R1_z220) p2 trivial (x_feedR (c := 200) (by omega)) q2 (fun K h => h) rfl rfl rfl (by decide +kernel) (by decide +kernel) (by decide +kernel) (by decide +kernel) (fun τ3 p4 p5 w h2 qw q4 => ?_)
  obtain ⟨_, F, f1, f2⟩ := qv
  obtain ⟨_, G, k1, k2⟩ := qw
  have f1 : ∀ i, i < 260 → F i = decA (τ 250) i := f1
  have f2 : ∀ i, i < 260 → decA (τ2 250) i = fdC F 200 (xs (f_add (nI (6 * j)) 1).toNatClampNeg) (xs (f_add (nI (6 * j)) 2).toNatClampNeg) (xs (f_add (nI (6 * j)) 3).toNatClampNeg) (xs (f_add (nI (6 * j)) 4).toNatClampNeg) (xs (f_add (nI (6 * j)) 5).toNatClampNeg) i := f2
  have k1 : ∀ i, i < 260 → G i = decA (τ2 251) i := k1
  have k2 : ∀ i, i < 260 → decA (τ3 251) i = fdR G 200 (xs (f_add (nI (6 * j)) 1).toNatClampNeg) (xs (f_add (nI (6 * j)) 2).toNatClampNeg) (xs (f_add (nI (6 * j)) 3).toNatClampNeg) (xs (f_add (nI (6 * j)) 4).toNatClampNeg) (xs (f_add (nI (6 * j)) 5).toNatClampNeg) i := k2
  have sm : sameB (decA (τ3 250)) (decA (τ3 251)) := fun i hi => by
    rw [p5 250 rfl, f2 i hi, k2 i hi]
    exact fd_same (fun j hj => by rw [f1 j hj, k1 j hj, p3 251 rfl]; exact hz.2.1 j hj) i hi
  exact K (upT τ3 202 220) h2 p4 ⟨RR_up 11 (by omega) upT_at (RB_mk sm (fun t ht => (upT_ne (nB_ne ht)).trans ((p5 t (ch_not ht)).trans (p3 t (ch_not2 ht)))) hz.2), Or.inl (Or.inr (mvH (k := 202) (c := 220) rfl (fun t ht => upT_ne ht) (by rw [upT_at]; rfl) (by decide) (by decide +kernel) q4))⟩

set_option maxRecDepth 100000 in
theorem g_law_feed_R1_220 {l : Launch} {Ls : Nat} {xs : Nat → Int32} {c18 : Blk} {τ : Nat → List (Option Nat)} {h : PH} {j : Nat} (hΦ : Φ τ) (hz : RR τ) (hj : 6 * j + 6 ≤ Ls) (hL : Ls ≤ 3072) (hh : all2 (gC ρ0 τ) HL_R1 h) (K : ∀ (τ2 : Nat → List (Option Nat)) (h2 : PH), Φ τ2 → HH τ2 h2 → c18 [some (.inr (some (.inr []))), some (.inr (some (.inl 0))), some (.inr (some (.inl 55))), some (.inl (f_add (nI (6 * j)) 6))] [] h2) (hs : (decA (τ 202) 0).toInt = 220) : b_L_law_207 l Ls xs c18 [some (.inr (some (.inr []))), some (.inr (some (.inl 0))), some (.inr (some (.inl 55))), some (.inl (nI (6 * j)))] [] h := by
  have hh := fxH (k := 202) (c := 220) (E := HL_R1_z220) rfl hs (by decide +kernel) hh
  refine And.intro (sv (k := 1) hj hL (by omega)) ?_
  refine And.intro (sv (k := 2) hj hL (by omega)) ?_
  refine And.intro (sv (k := 3) hj hL (by omega)) ?_
  refine And.intro (sv (k := 4) hj hL (by omega)) ?_
  refine And.intro (sv (k := 5) hj hL (by omega)) ?_
  refine callX (τ := τ) (xs := [(xs (f_add (nI (6 * j)) 1).toNatClampNeg), (xs (f_add (nI (6 * j)) 2).toNatClampNeg), (xs (f_add (nI (6 * j)) 3).toNatClampNeg), (xs (f_add (nI (6 * j)) 4).toNatClampNeg), (xs (f_add (nI (6 * j)) 5).toNatClampNeg)]) (rest := []) (a := 0) (ci := 10) (tm := tmO [3, 9, 14, 19, 24, 27, 29, 32, 35, 54, 39, 40, 47]) (H := HL_R1_z220) (H2 := HL_R1_f220) hΦ trivial (x_feedC (c := 220) (by omega)) hh (fun K h => h) rfl rfl rfl (by decide +kernel) (by decide +kernel) (by decide +kernel) (by decide +kernel) (fun τ2 p2 p3 v h1 qv q2 => ?_)
  refine And.intro (sv (k := 1) hj hL (by omega)) ?_
  refine And.intro (sv (k := 2) hj hL (by omega)) ?_
  refine And.intro (sv (k := 3) hj hL (by omega)) ?_
  refine And.intro (sv (k := 4) hj hL (by omega)) ?_
  refine And.intro (sv (k := 5) hj hL (by omega)) ?_
  refine callX (τ := τ2) (xs := [(xs (f_add (nI (6 * j)) 1).toNatClampNeg), (xs (f_add (nI (6 * j)) 2).toNatClampNeg), (xs (f_add (nI (6 * j)) 3).toNatClampNeg), (xs (f_add (nI (6 * j)) 4).toNatClampNeg), (xs (f_add (nI (6 * j)) 5).toNatClampNeg)]) (rest := []) (a := 55) (ci := 11) (tm := tmO [56, 57, 58, 59, 60, 61, 62, 63, 65, 66, 67, 68, 69, 70, 71, 72, 73, 74, 75, 76, 77, 78, 79, 80, 81, 82, 83, 84, 85, 86]) (H := HL_R1_f220) (H2 := HL_R1_z240) p2 trivial (x_feedR (c := 220) (by omega)) q2 (fun K h => h) rfl rfl rfl (by decide +kernel) (by decide +kernel) (by decide +kernel) (by decide +kernel) (fun τ3 p4 p5 w h2 qw q4 => ?_)
  obtain ⟨_, F, f1, f2⟩ := qv
  obtain ⟨_, G, k1, k2⟩ := qw
  have f1 : ∀ i, i < 260 → F i = decA (τ 250) i := f1
  have f2 : ∀ i, i < 260 → decA (τ2 250) i = fdC F 220 (xs (f_add (nI (6 * j)) 1).toNatClampNeg) (xs (f_add (nI (6 * j)) 2).toNatClampNeg) (xs (f_add (nI (6 * j)) 3).toNatClampNeg) (xs (f_add (nI (6 * j)) 4).toNatClampNeg) (xs (f_add (nI (6 * j)) 5).toNatClampNeg) i := f2
  have k1 : ∀ i, i < 260 → G i = decA (τ2 251) i := k1
  have k2 : ∀ i, i < 260 → decA (τ3 251) i = fdR G 220 (xs (f_add (nI (6 * j)) 1).toNatClampNeg) (xs (f_add (nI (6 * j)) 2).toNatClampNeg) (xs (f_add (nI (6 * j)) 3).toNatClampNeg) (xs (f_add (nI (6 * j)) 4).toNatClampNeg) (xs (f_add (nI (6 * j)) 5).toNatClampNeg) i := k2
  have sm : sameB (decA (τ3 250)) (decA (τ3 251)) := fun i hi => by
    rw [p5 250 rfl, f2 i hi, k2 i hi]
    exact fd_same (fun j hj => by rw [f1 j hj, k1 j hj, p3 251 rfl]; exact hz.2.1 j hj) i hi
  exact K (upT τ3 202 240) h2 p4 ⟨RR_up 12 (by omega) upT_at (RB_mk sm (fun t ht => (upT_ne (nB_ne ht)).trans ((p5 t (ch_not ht)).trans (p3 t (ch_not2 ht)))) hz.2), Or.inl (Or.inr (mvH (k := 202) (c := 240) rfl (fun t ht => upT_ne ht) (by rw [upT_at]; rfl) (by decide) (by decide +kernel) q4))⟩

set_option maxRecDepth 100000 in
theorem g_law_feed_R1_240 {l : Launch} {Ls : Nat} {xs : Nat → Int32} {c18 : Blk} {τ : Nat → List (Option Nat)} {h : PH} {j : Nat} (hΦ : Φ τ) (hz : RR τ) (hj : 6 * j + 6 ≤ Ls) (hL : Ls ≤ 3072) (hh : all2 (gC ρ0 τ) HL_R1 h) (K : ∀ (τ2 : Nat → List (Option Nat)) (h2 : PH), Φ τ2 → HH τ2 h2 → c18 [some (.inr (some (.inr []))), some (.inr (some (.inl 0))), some (.inr (some (.inl 55))), some (.inl (f_add (nI (6 * j)) 6))] [] h2) (hs : (decA (τ 202) 0).toInt = 240) : b_L_law_207 l Ls xs c18 [some (.inr (some (.inr []))), some (.inr (some (.inl 0))), some (.inr (some (.inl 55))), some (.inl (nI (6 * j)))] [] h := by
  have hh := fxH (k := 202) (c := 240) (E := HL_R1_z240) rfl hs (by decide +kernel) hh
  refine And.intro (sv (k := 1) hj hL (by omega)) ?_
  refine And.intro (sv (k := 2) hj hL (by omega)) ?_
  refine And.intro (sv (k := 3) hj hL (by omega)) ?_
  refine And.intro (sv (k := 4) hj hL (by omega)) ?_
  refine And.intro (sv (k := 5) hj hL (by omega)) ?_
  refine callX (τ := τ) (xs := [(xs (f_add (nI (6 * j)) 1).toNatClampNeg), (xs (f_add (nI (6 * j)) 2).toNatClampNeg), (xs (f_add (nI (6 * j)) 3).toNatClampNeg), (xs (f_add (nI (6 * j)) 4).toNatClampNeg), (xs (f_add (nI (6 * j)) 5).toNatClampNeg)]) (rest := []) (a := 0) (ci := 10) (tm := tmO [3, 9, 14, 19, 24, 27, 29, 32, 35, 54, 39, 40, 47]) (H := HL_R1_z240) (H2 := HL_R1_f240) hΦ trivial (x_feedC (c := 240) (by omega)) hh (fun K h => h) rfl rfl rfl (by decide +kernel) (by decide +kernel) (by decide +kernel) (by decide +kernel) (fun τ2 p2 p3 v h1 qv q2 => ?_)
  refine And.intro (sv (k := 1) hj hL (by omega)) ?_
  refine And.intro (sv (k := 2) hj hL (by omega)) ?_
  refine And.intro (sv (k := 3) hj hL (by omega)) ?_
  refine And.intro (sv (k := 4) hj hL (by omega)) ?_
  refine And.intro (sv (k := 5) hj hL (by omega)) ?_
  refine callX (τ := τ2) (xs := [(xs (f_add (nI (6 * j)) 1).toNatClampNeg), (xs (f_add (nI (6 * j)) 2).toNatClampNeg), (xs (f_add (nI (6 * j)) 3).toNatClampNeg), (xs (f_add (nI (6 * j)) 4).toNatClampNeg), (xs (f_add (nI (6 * j)) 5).toNatClampNeg)]) (rest := []) (a := 55) (ci := 11) (tm := tmO [56, 57, 58, 59, 60, 61, 62, 63, 65, 66, 67, 68, 69, 70, 71, 72, 73, 74, 75, 76, 77, 78, 79, 80, 81, 82, 83, 84, 85, 86]) (H := HL_R1_f240) (H2 := HL_R1_z260) p2 trivial (x_feedR (c := 240) (by omega)) q2 (fun K h => h) rfl rfl rfl (by decide +kernel) (by decide +kernel) (by decide +kernel) (by decide +kernel) (fun τ3 p4 p5 w h2 qw q4 => ?_)
  obtain ⟨_, F, f1, f2⟩ := qv
  obtain ⟨_, G, k1, k2⟩ := qw
  have f1 : ∀ i, i < 260 → F i = decA (τ 250) i := f1
  have f2 : ∀ i, i < 260 → decA (τ2 250) i = fdC F 240 (xs (f_add (nI (6 * j)) 1).toNatClampNeg) (xs (f_add (nI (6 * j)) 2).toNatClampNeg) (xs (f_add (nI (6 * j)) 3).toNatClampNeg) (xs (f_add (nI (6 * j)) 4).toNatClampNeg) (xs (f_add (nI (6 * j)) 5).toNatClampNeg) i := f2
  have k1 : ∀ i, i < 260 → G i = decA (τ2 251) i := k1
  have k2 : ∀ i, i < 260 → decA (τ3 251) i = fdR G 240 (xs (f_add (nI (6 * j)) 1).toNatClampNeg) (xs (f_add (nI (6 * j)) 2).toNatClampNeg) (xs (f_add (nI (6 * j)) 3).toNatClampNeg) (xs (f_add (nI (6 * j)) 4).toNatClampNeg) (xs (f_add (nI (6 * j)) 5).toNatClampNeg) i := k2
  have sm : sameB (decA (τ3 250)) (decA (τ3 251)) := fun i hi => by
    rw [p5 250 rfl, f2 i hi, k2 i hi]
    exact fd_same (fun j hj => by rw [f1 j hj, k1 j hj, p3 251 rfl]; exact hz.2.1 j hj) i hi
  exact K (upT τ3 202 260) h2 p4 ⟨RR_up 13 (by omega) upT_at (RB_mk sm (fun t ht => (upT_ne (nB_ne ht)).trans ((p5 t (ch_not ht)).trans (p3 t (ch_not2 ht)))) hz.2), Or.inl (Or.inr (mvH (k := 202) (c := 260) rfl (fun t ht => upT_ne ht) (by rw [upT_at]; rfl) (by decide) (by decide +kernel) q4))⟩

set_option maxRecDepth 100000 in
theorem g_law_feed_R1_260 {l : Launch} {Ls : Nat} {xs : Nat → Int32} {c18 : Blk} {τ : Nat → List (Option Nat)} {h : PH} {j : Nat} (hΦ : Φ τ) (hz : RR τ) (hj : 6 * j + 6 ≤ Ls) (hL : Ls ≤ 3072) (hh : all2 (gC ρ0 τ) HL_R1 h) (K : ∀ (τ2 : Nat → List (Option Nat)) (h2 : PH), Φ τ2 → HH τ2 h2 → c18 [some (.inr (some (.inr []))), some (.inr (some (.inl 0))), some (.inr (some (.inl 55))), some (.inl (f_add (nI (6 * j)) 6))] [] h2) (hs : (decA (τ 202) 0).toInt = 260) : b_L_law_207 l Ls xs c18 [some (.inr (some (.inr []))), some (.inr (some (.inl 0))), some (.inr (some (.inl 55))), some (.inl (nI (6 * j)))] [] h := by
  have hh := fxH (k := 202) (c := 260) (E := HL_R1_z260) rfl hs (by decide +kernel) hh
  refine And.intro (sv (k := 1) hj hL (by omega)) ?_
  refine And.intro (sv (k := 2) hj hL (by omega)) ?_
  refine And.intro (sv (k := 3) hj hL (by omega)) ?_
  refine And.intro (sv (k := 4) hj hL (by omega)) ?_
  refine And.intro (sv (k := 5) hj hL (by omega)) ?_
  refine callX (τ := τ) (xs := [(xs (f_add (nI (6 * j)) 1).toNatClampNeg), (xs (f_add (nI (6 * j)) 2).toNatClampNeg), (xs (f_add (nI (6 * j)) 3).toNatClampNeg), (xs (f_add (nI (6 * j)) 4).toNatClampNeg), (xs (f_add (nI (6 * j)) 5).toNatClampNeg)]) (rest := []) (a := 0) (ci := 10) (tm := tmO [3, 9, 14, 19, 24, 27, 29, 32, 35, 54, 39, 40, 47]) (H := HL_R1_z260) (H2 := HL_R1_z260) hΦ trivial n_feedC hh (fun K h => h) rfl rfl rfl (by decide +kernel) (by decide +kernel) (by decide +kernel) (by decide +kernel) (fun τ2 p2 p3 v h1 qv q2 => ?_)
  have e_ : τ2 = τ := funext fun t => p3 t (Bool.and_false _)
  rw [e_] at q2
  refine And.intro (sv (k := 1) hj hL (by omega)) ?_
  refine And.intro (sv (k := 2) hj hL (by omega)) ?_
  refine And.intro (sv (k := 3) hj hL (by omega)) ?_
  refine And.intro (sv (k := 4) hj hL (by omega)) ?_
  refine And.intro (sv (k := 5) hj hL (by omega)) ?_
  refine callX (τ := τ) (xs := [(xs (f_add (nI (6 * j)) 1).toNatClampNeg), (xs (f_add (nI (6 * j)) 2).toNatClampNeg), (xs (f_add (nI (6 * j)) 3).toNatClampNeg), (xs (f_add (nI (6 * j)) 4).toNatClampNeg), (xs (f_add (nI (6 * j)) 5).toNatClampNeg)]) (rest := []) (a := 55) (ci := 11) (tm := tmO [56, 57, 58, 59, 60, 61, 62, 63, 65, 66, 67, 68, 69, 70, 71, 72, 73, 74, 75, 76, 77, 78, 79, 80, 81, 82, 83, 84, 85, 86]) (H := HL_R1_z260) (H2 := HL_R1_z260) hΦ trivial n_feedR q2 (fun K h => h) rfl rfl rfl (by decide +kernel) (by decide +kernel) (by decide +kernel) (by decide +kernel) (fun τ3 p4 p5 w h2 qw q4 => ?_)
  have e3_ : τ3 = τ := funext fun t => p5 t (Bool.and_false _)
  rw [e3_] at q4
  exact K τ h2 hΦ ⟨hz, Or.inl (Or.inr (mvH (k := 202) (c := 260) rfl (fun _ _ => rfl) hs (by decide) (by decide +kernel) q4))⟩

theorem g_law_feed_R1 {l : Launch} {Ls : Nat} {xs : Nat → Int32} {c18 : Blk} {τ : Nat → List (Option Nat)} {h : PH} {j : Nat} (hΦ : Φ τ) (hz : RR τ) (hj : 6 * j + 6 ≤ Ls) (hL : Ls ≤ 3072) (hh : all2 (gC ρ0 τ) HL_R1 h) (K : ∀ (τ2 : Nat → List (Option Nat)) (h2 : PH), Φ τ2 → HH τ2 h2 → c18 [some (.inr (some (.inr []))), some (.inr (some (.inl 0))), some (.inr (some (.inl 55))), some (.inl (f_add (nI (6 * j)) 6))] [] h2) : b_L_law_207 l Ls xs c18 [some (.inr (some (.inr []))), some (.inr (some (.inl 0))), some (.inr (some (.inl 55))), some (.inl (nI (6 * j)))] [] h := by
  obtain ⟨q, hq, hs⟩ := hz.1
  by_cases e_0 : q = 0
  · exact g_law_feed_R1_0 hΦ hz hj hL hh K (by omega)
  by_cases e_20 : q = 1
  · exact g_law_feed_R1_20 hΦ hz hj hL hh K (by omega)
  by_cases e_40 : q = 2
  · exact g_law_feed_R1_40 hΦ hz hj hL hh K (by omega)
  by_cases e_60 : q = 3
  · exact g_law_feed_R1_60 hΦ hz hj hL hh K (by omega)
  by_cases e_80 : q = 4
  · exact g_law_feed_R1_80 hΦ hz hj hL hh K (by omega)
  by_cases e_100 : q = 5
  · exact g_law_feed_R1_100 hΦ hz hj hL hh K (by omega)
  by_cases e_120 : q = 6
  · exact g_law_feed_R1_120 hΦ hz hj hL hh K (by omega)
  by_cases e_140 : q = 7
  · exact g_law_feed_R1_140 hΦ hz hj hL hh K (by omega)
  by_cases e_160 : q = 8
  · exact g_law_feed_R1_160 hΦ hz hj hL hh K (by omega)
  by_cases e_180 : q = 9
  · exact g_law_feed_R1_180 hΦ hz hj hL hh K (by omega)
  by_cases e_200 : q = 10
  · exact g_law_feed_R1_200 hΦ hz hj hL hh K (by omega)
  by_cases e_220 : q = 11
  · exact g_law_feed_R1_220 hΦ hz hj hL hh K (by omega)
  by_cases e_240 : q = 12
  · exact g_law_feed_R1_240 hΦ hz hj hL hh K (by omega)
  exact g_law_feed_R1_260 hΦ hz hj hL hh K (by omega)

set_option maxRecDepth 100000 in
theorem g_law_law_R1_y20 {l : Launch} {Ls : Nat} {xs : Nat → Int32} {c18 : Blk} {τ : Nat → List (Option Nat)} {h : PH} {j : Nat} (hΦ : Φ τ) (hz : RR τ) (hj : 6 * j + 6 ≤ Ls) (hL : Ls ≤ 3072) (hh : all2 (gC ρ0 τ) HL_R1 h) (K : ∀ (τ2 : Nat → List (Option Nat)) (h2 : PH), Φ τ2 → HH τ2 h2 → c18 [some (.inr (some (.inr []))), some (.inr (some (.inl 0))), some (.inr (some (.inl 55))), some (.inl (f_add (nI (6 * j)) 6))] [] h2) (g1 : 1 ≤ (xs (f_add (nI (6 * j)) 1).toNatClampNeg).toInt ∧ (xs (f_add (nI (6 * j)) 1).toNatClampNeg).toInt ≤ 20) (hs : 20 ≤ (decA (τ 202) 0).toInt ∧ (decA (τ 202) 0).toInt ≤ 260) : b_L_law_270 l Ls xs c18 [some (.inr (some (.inr []))), some (.inr (some (.inl 0))), some (.inr (some (.inl 55))), some (.inl (nI (6 * j)))] [] h := by
  have hh := fyH (k := 202) (c := 20) (d := 260) (E := HL_R1_y20) rfl hs.1 hs.2 (by decide +kernel) hh
  refine And.intro (sv (k := 1) hj hL (by omega)) ?_
  refine callT (τ := τ) (tm := tmO [3, 9, 14, 19, 24, 27, 29, 32, 35, 39, 40]) (A := [.inl (1, 20), .inr (.inr (some (.inl 0)))]) (H := HL_R1_y20) (Ts := [([.inl (-2147483648, 2147483647)], HL_S1_w20), ([.inl (-2147483648, 2147483647)], HL_R2_w20)]) hΦ s_X11_law_R_y20 ⟨⟨_, rfl, g1⟩, rfl, trivial⟩ hh (by decide +kernel) (fun T hT st h1 q1 q2 => ?_)
  rcases List.mem_cons.mp hT with rfl | hT
  · obtain ⟨v, rfl, _⟩ := st1 q1
    refine And.intro (sv (k := 1) hj hL (by omega)) ?_
    refine callL (τ := τ) (tm := tmO [56, 57, 58, 59, 60, 61, 62, 63, 76, 77, 78, 79, 80, 81, 82, 83, 84, 85, 86]) (A := [.inl (1, 20), .inr (.inr (some (.inl 55)))]) (as := [.inr (.inr (some (.inl 55))), .inl (1, 20)]) (H := HL_S1_w20) (H2 := HL_S1_z0) hΦ s_X12_law_y20 ⟨⟨_, rfl, g1⟩, rfl, trivial⟩ q2 rfl (by decide +kernel) (by decide +kernel) (by decide +kernel) (by decide +kernel) (fun τ2 p2 p3 y h2 q4 => ?_)
    exact K (upT τ2 202 0) h2 p2 ⟨RR_up 0 (by omega) upT_at (RR_to (fun t ht => p3 t (kT_202 ht)) hz).2, Or.inl (Or.inl (mvH (k := 202) (c := 0) rfl (fun t ht => upT_ne ht) (by rw [upT_at]; rfl) (by decide) (by decide +kernel) q4))⟩
  cases List.mem_singleton.mp hT
  obtain ⟨v, rfl, _⟩ := st1 q1
  refine And.intro (sv (k := 1) hj hL (by omega)) ?_
  refine callL (τ := τ) (tm := tmO [56, 57, 58, 59, 60, 61, 62, 63, 76, 77, 78, 79, 80, 81, 82, 83, 84, 85, 86]) (A := [.inl (1, 20), .inr (.inr (some (.inl 55)))]) (as := [.inr (.inr (some (.inl 55))), .inl (1, 20)]) (H := HL_R2_w20) (H2 := HL_R2_z0) hΦ s_X12_law_y20 ⟨⟨_, rfl, g1⟩, rfl, trivial⟩ q2 rfl (by decide +kernel) (by decide +kernel) (by decide +kernel) (by decide +kernel) (fun τ2 p2 p3 y h2 q4 => ?_)
  exact K (upT τ2 202 0) h2 p2 ⟨RR_up 0 (by omega) upT_at (RR_to (fun t ht => p3 t (kT_202 ht)) hz).2, Or.inr (Or.inr (mvH (k := 202) (c := 0) rfl (fun t ht => upT_ne ht) (by rw [upT_at]; rfl) (by decide) (by decide +kernel) q4))⟩

set_option maxRecDepth 100000 in
theorem g_law_law_R1_y40 {l : Launch} {Ls : Nat} {xs : Nat → Int32} {c18 : Blk} {τ : Nat → List (Option Nat)} {h : PH} {j : Nat} (hΦ : Φ τ) (hz : RR τ) (hj : 6 * j + 6 ≤ Ls) (hL : Ls ≤ 3072) (hh : all2 (gC ρ0 τ) HL_R1 h) (K : ∀ (τ2 : Nat → List (Option Nat)) (h2 : PH), Φ τ2 → HH τ2 h2 → c18 [some (.inr (some (.inr []))), some (.inr (some (.inl 0))), some (.inr (some (.inl 55))), some (.inl (f_add (nI (6 * j)) 6))] [] h2) (g1 : 1 ≤ (xs (f_add (nI (6 * j)) 1).toNatClampNeg).toInt ∧ (xs (f_add (nI (6 * j)) 1).toNatClampNeg).toInt ≤ 40) (hs : 40 ≤ (decA (τ 202) 0).toInt ∧ (decA (τ 202) 0).toInt ≤ 260) : b_L_law_270 l Ls xs c18 [some (.inr (some (.inr []))), some (.inr (some (.inl 0))), some (.inr (some (.inl 55))), some (.inl (nI (6 * j)))] [] h := by
  have hh := fyH (k := 202) (c := 40) (d := 260) (E := HL_R1_y40) rfl hs.1 hs.2 (by decide +kernel) hh
  refine And.intro (sv (k := 1) hj hL (by omega)) ?_
  refine callT (τ := τ) (tm := tmO [3, 9, 14, 19, 24, 27, 29, 32, 35, 39, 40]) (A := [.inl (1, 40), .inr (.inr (some (.inl 0)))]) (H := HL_R1_y40) (Ts := [([.inl (-2147483648, 2147483647)], HL_S1_w40), ([.inl (-2147483648, 2147483647)], HL_R2_w40)]) hΦ s_X11_law_R_y40 ⟨⟨_, rfl, g1⟩, rfl, trivial⟩ hh (by decide +kernel) (fun T hT st h1 q1 q2 => ?_)
  rcases List.mem_cons.mp hT with rfl | hT
  · obtain ⟨v, rfl, _⟩ := st1 q1
    refine And.intro (sv (k := 1) hj hL (by omega)) ?_
    refine callL (τ := τ) (tm := tmO [56, 57, 58, 59, 60, 61, 62, 63, 76, 77, 78, 79, 80, 81, 82, 83, 84, 85, 86]) (A := [.inl (1, 40), .inr (.inr (some (.inl 55)))]) (as := [.inr (.inr (some (.inl 55))), .inl (1, 40)]) (H := HL_S1_w40) (H2 := HL_S1_z0) hΦ s_X12_law_y40 ⟨⟨_, rfl, g1⟩, rfl, trivial⟩ q2 rfl (by decide +kernel) (by decide +kernel) (by decide +kernel) (by decide +kernel) (fun τ2 p2 p3 y h2 q4 => ?_)
    exact K (upT τ2 202 0) h2 p2 ⟨RR_up 0 (by omega) upT_at (RR_to (fun t ht => p3 t (kT_202 ht)) hz).2, Or.inl (Or.inl (mvH (k := 202) (c := 0) rfl (fun t ht => upT_ne ht) (by rw [upT_at]; rfl) (by decide) (by decide +kernel) q4))⟩
  cases List.mem_singleton.mp hT
  obtain ⟨v, rfl, _⟩ := st1 q1
  refine And.intro (sv (k := 1) hj hL (by omega)) ?_
  refine callL (τ := τ) (tm := tmO [56, 57, 58, 59, 60, 61, 62, 63, 76, 77, 78, 79, 80, 81, 82, 83, 84, 85, 86]) (A := [.inl (1, 40), .inr (.inr (some (.inl 55)))]) (as := [.inr (.inr (some (.inl 55))), .inl (1, 40)]) (H := HL_R2_w40) (H2 := HL_R2_z0) hΦ s_X12_law_y40 ⟨⟨_, rfl, g1⟩, rfl, trivial⟩ q2 rfl (by decide +kernel) (by decide +kernel) (by decide +kernel) (by decide +kernel) (fun τ2 p2 p3 y h2 q4 => ?_)
  exact K (upT τ2 202 0) h2 p2 ⟨RR_up 0 (by omega) upT_at (RR_to (fun t ht => p3 t (kT_202 ht)) hz).2, Or.inr (Or.inr (mvH (k := 202) (c := 0) rfl (fun t ht => upT_ne ht) (by rw [upT_at]; rfl) (by decide) (by decide +kernel) q4))⟩

set_option maxRecDepth 100000 in
theorem g_law_law_R1_y60 {l : Launch} {Ls : Nat} {xs : Nat → Int32} {c18 : Blk} {τ : Nat → List (Option Nat)} {h : PH} {j : Nat} (hΦ : Φ τ) (hz : RR τ) (hj : 6 * j + 6 ≤ Ls) (hL : Ls ≤ 3072) (hh : all2 (gC ρ0 τ) HL_R1 h) (K : ∀ (τ2 : Nat → List (Option Nat)) (h2 : PH), Φ τ2 → HH τ2 h2 → c18 [some (.inr (some (.inr []))), some (.inr (some (.inl 0))), some (.inr (some (.inl 55))), some (.inl (f_add (nI (6 * j)) 6))] [] h2) (g1 : 1 ≤ (xs (f_add (nI (6 * j)) 1).toNatClampNeg).toInt ∧ (xs (f_add (nI (6 * j)) 1).toNatClampNeg).toInt ≤ 60) (hs : 60 ≤ (decA (τ 202) 0).toInt ∧ (decA (τ 202) 0).toInt ≤ 260) : b_L_law_270 l Ls xs c18 [some (.inr (some (.inr []))), some (.inr (some (.inl 0))), some (.inr (some (.inl 55))), some (.inl (nI (6 * j)))] [] h := by
  have hh := fyH (k := 202) (c := 60) (d := 260) (E := HL_R1_y60) rfl hs.1 hs.2 (by decide +kernel) hh
  refine And.intro (sv (k := 1) hj hL (by omega)) ?_
  refine callT (τ := τ) (tm := tmO [3, 9, 14, 19, 24, 27, 29, 32, 35, 39, 40]) (A := [.inl (1, 60), .inr (.inr (some (.inl 0)))]) (H := HL_R1_y60) (Ts := [([.inl (-2147483648, 2147483647)], HL_S1_w60), ([.inl (-2147483648, 2147483647)], HL_R2_w60)]) hΦ s_X11_law_R_y60 ⟨⟨_, rfl, g1⟩, rfl, trivial⟩ hh (by decide +kernel) (fun T hT st h1 q1 q2 => ?_)
  rcases List.mem_cons.mp hT with rfl | hT
  · obtain ⟨v, rfl, _⟩ := st1 q1
    refine And.intro (sv (k := 1) hj hL (by omega)) ?_
    refine callL (τ := τ) (tm := tmO [56, 57, 58, 59, 60, 61, 62, 63, 76, 77, 78, 79, 80, 81, 82, 83, 84, 85, 86]) (A := [.inl (1, 60), .inr (.inr (some (.inl 55)))]) (as := [.inr (.inr (some (.inl 55))), .inl (1, 60)]) (H := HL_S1_w60) (H2 := HL_S1_z0) hΦ s_X12_law_y60 ⟨⟨_, rfl, g1⟩, rfl, trivial⟩ q2 rfl (by decide +kernel) (by decide +kernel) (by decide +kernel) (by decide +kernel) (fun τ2 p2 p3 y h2 q4 => ?_)
    exact K (upT τ2 202 0) h2 p2 ⟨RR_up 0 (by omega) upT_at (RR_to (fun t ht => p3 t (kT_202 ht)) hz).2, Or.inl (Or.inl (mvH (k := 202) (c := 0) rfl (fun t ht => upT_ne ht) (by rw [upT_at]; rfl) (by decide) (by decide +kernel) q4))⟩
  cases List.mem_singleton.mp hT
  obtain ⟨v, rfl, _⟩ := st1 q1
  refine And.intro (sv (k := 1) hj hL (by omega)) ?_
  refine callL (τ := τ) (tm := tmO [56, 57, 58, 59, 60, 61, 62, 63, 76, 77, 78, 79, 80, 81, 82, 83, 84, 85, 86]) (A := [.inl (1, 60), .inr (.inr (some (.inl 55)))]) (as := [.inr (.inr (some (.inl 55))), .inl (1, 60)]) (H := HL_R2_w60) (H2 := HL_R2_z0) hΦ s_X12_law_y60 ⟨⟨_, rfl, g1⟩, rfl, trivial⟩ q2 rfl (by decide +kernel) (by decide +kernel) (by decide +kernel) (by decide +kernel) (fun τ2 p2 p3 y h2 q4 => ?_)
  exact K (upT τ2 202 0) h2 p2 ⟨RR_up 0 (by omega) upT_at (RR_to (fun t ht => p3 t (kT_202 ht)) hz).2, Or.inr (Or.inr (mvH (k := 202) (c := 0) rfl (fun t ht => upT_ne ht) (by rw [upT_at]; rfl) (by decide) (by decide +kernel) q4))⟩

set_option maxRecDepth 100000 in
theorem g_law_law_R1_y80 {l : Launch} {Ls : Nat} {xs : Nat → Int32} {c18 : Blk} {τ : Nat → List (Option Nat)} {h : PH} {j : Nat} (hΦ : Φ τ) (hz : RR τ) (hj : 6 * j + 6 ≤ Ls) (hL : Ls ≤ 3072) (hh : all2 (gC ρ0 τ) HL_R1 h) (K : ∀ (τ2 : Nat → List (Option Nat)) (h2 : PH), Φ τ2 → HH τ2 h2 → c18 [some (.inr (some (.inr []))), some (.inr (some (.inl 0))), some (.inr (some (.inl 55))), some (.inl (f_add (nI (6 * j)) 6))] [] h2) (g1 : 1 ≤ (xs (f_add (nI (6 * j)) 1).toNatClampNeg).toInt ∧ (xs (f_add (nI (6 * j)) 1).toNatClampNeg).toInt ≤ 80) (hs : 80 ≤ (decA (τ 202) 0).toInt ∧ (decA (τ 202) 0).toInt ≤ 260) : b_L_law_270 l Ls xs c18 [some (.inr (some (.inr []))), some (.inr (some (.inl 0))), some (.inr (some (.inl 55))), some (.inl (nI (6 * j)))] [] h := by
  have hh := fyH (k := 202) (c := 80) (d := 260) (E := HL_R1_y80) rfl hs.1 hs.2 (by decide +kernel) hh
  refine And.intro (sv (k := 1) hj hL (by omega)) ?_
  refine callT (τ := τ) (tm := tmO [3, 9, 14, 19, 24, 27, 29, 32, 35, 39, 40]) (A := [.inl (1, 80), .inr (.inr (some (.inl 0)))]) (H := HL_R1_y80) (Ts := [([.inl (-2147483648, 2147483647)], HL_S1_w80), ([.inl (-2147483648, 2147483647)], HL_R2_w80)]) hΦ s_X11_law_R_y80 ⟨⟨_, rfl, g1⟩, rfl, trivial⟩ hh (by decide +kernel) (fun T hT st h1 q1 q2 => ?_)
  rcases List.mem_cons.mp hT with rfl | hT
  · obtain ⟨v, rfl, _⟩ := st1 q1
    refine And.intro (sv (k := 1) hj hL (by omega)) ?_
    refine callL (τ := τ) (tm := tmO [56, 57, 58, 59, 60, 61, 62, 63, 76, 77, 78, 79, 80, 81, 82, 83, 84, 85, 86]) (A := [.inl (1, 80), .inr (.inr (some (.inl 55)))]) (as := [.inr (.inr (some (.inl 55))), .inl (1, 80)]) (H := HL_S1_w80) (H2 := HL_S1_z0) hΦ s_X12_law_y80 ⟨⟨_, rfl, g1⟩, rfl, trivial⟩ q2 rfl (by decide +kernel) (by decide +kernel) (by decide +kernel) (by decide +kernel) (fun τ2 p2 p3 y h2 q4 => ?_)
    exact K (upT τ2 202 0) h2 p2 ⟨RR_up 0 (by omega) upT_at (RR_to (fun t ht => p3 t (kT_202 ht)) hz).2, Or.inl (Or.inl (mvH (k := 202) (c := 0) rfl (fun t ht => upT_ne ht) (by rw [upT_at]; rfl) (by decide) (by decide +kernel) q4))⟩
  cases List.mem_singleton.mp hT
  obtain ⟨v, rfl, _⟩ := st1 q1
  refine And.intro (sv (k := 1) hj hL (by omega)) ?_
  refine callL (τ := τ) (tm := tmO [56, 57, 58, 59, 60, 61, 62, 63, 76, 77, 78, 79, 80, 81, 82, 83, 84, 85, 86]) (A := [.inl (1, 80), .inr (.inr (some (.inl 55)))]) (as := [.inr (.inr (some (.inl 55))), .inl (1, 80)]) (H := HL_R2_w80) (H2 := HL_R2_z0) hΦ s_X12_law_y80 ⟨⟨_, rfl, g1⟩, rfl, trivial⟩ q2 rfl (by decide +kernel) (by decide +kernel) (by decide +kernel) (by decide +kernel) (fun τ2 p2 p3 y h2 q4 => ?_)
  exact K (upT τ2 202 0) h2 p2 ⟨RR_up 0 (by omega) upT_at (RR_to (fun t ht => p3 t (kT_202 ht)) hz).2, Or.inr (Or.inr (mvH (k := 202) (c := 0) rfl (fun t ht => upT_ne ht) (by rw [upT_at]; rfl) (by decide) (by decide +kernel) q4))⟩

set_option maxRecDepth 100000 in
theorem g_law_law_R1_y100 {l : Launch} {Ls : Nat} {xs : Nat → Int32} {c18 : Blk} {τ : Nat → List (Option Nat)} {h : PH} {j : Nat} (hΦ : Φ τ) (hz : RR τ) (hj : 6 * j + 6 ≤ Ls) (hL : Ls ≤ 3072) (hh : all2 (gC ρ0 τ) HL_R1 h) (K : ∀ (τ2 : Nat → List (Option Nat)) (h2 : PH), Φ τ2 → HH τ2 h2 → c18 [some (.inr (some (.inr []))), some (.inr (some (.inl 0))), some (.inr (some (.inl 55))), some (.inl (f_add (nI (6 * j)) 6))] [] h2) (g1 : 1 ≤ (xs (f_add (nI (6 * j)) 1).toNatClampNeg).toInt ∧ (xs (f_add (nI (6 * j)) 1).toNatClampNeg).toInt ≤ 100) (hs : 100 ≤ (decA (τ 202) 0).toInt ∧ (decA (τ 202) 0).toInt ≤ 260) : b_L_law_270 l Ls xs c18 [some (.inr (some (.inr []))), some (.inr (some (.inl 0))), some (.inr (some (.inl 55))), some (.inl (nI (6 * j)))] [] h := by
  have hh := fyH (k := 202) (c := 100) (d := 260) (E := HL_R1_y100) rfl hs.1 hs.2 (by decide +kernel) hh
  refine And.intro (sv (k := 1) hj hL (by omega)) ?_
  refine callT (τ := τ) (tm := tmO [3, 9, 14, 19, 24, 27, 29, 32, 35, 39, 40]) (A := [.inl (1, 100), .inr (.inr (some (.inl 0)))]) (H := HL_R1_y100) (Ts := [([.inl (-2147483648, 2147483647)], HL_S1_w100), ([.inl (-2147483648, 2147483647)], HL_R2_w100)]) hΦ s_X11_law_R_y100 ⟨⟨_, rfl, g1⟩, rfl, trivial⟩ hh (by decide +kernel) (fun T hT st h1 q1 q2 => ?_)
  rcases List.mem_cons.mp hT with rfl | hT
  · obtain ⟨v, rfl, _⟩ := st1 q1
    refine And.intro (sv (k := 1) hj hL (by omega)) ?_
    refine callL (τ := τ) (tm := tmO [56, 57, 58, 59, 60, 61, 62, 63, 76, 77, 78, 79, 80, 81, 82, 83, 84, 85, 86]) (A := [.inl (1, 100), .inr (.inr (some (.inl 55)))]) (as := [.inr (.inr (some (.inl 55))), .inl (1, 100)]) (H := HL_S1_w100) (H2 := HL_S1_z0) hΦ s_X12_law_y100 ⟨⟨_, rfl, g1⟩, rfl, trivial⟩ q2 rfl (by decide +kernel) (by decide +kernel) (by decide +kernel) (by decide +kernel) (fun τ2 p2 p3 y h2 q4 => ?_)
    exact K (upT τ2 202 0) h2 p2 ⟨RR_up 0 (by omega) upT_at (RR_to (fun t ht => p3 t (kT_202 ht)) hz).2, Or.inl (Or.inl (mvH (k := 202) (c := 0) rfl (fun t ht => upT_ne ht) (by rw [upT_at]; rfl) (by decide) (by decide +kernel) q4))⟩
  cases List.mem_singleton.mp hT
  obtain ⟨v, rfl, _⟩ := st1 q1
  refine And.intro (sv (k := 1) hj hL (by omega)) ?_
  refine callL (τ := τ) (tm := tmO [56, 57, 58, 59, 60, 61, 62, 63, 76, 77, 78, 79, 80, 81, 82, 83, 84, 85, 86]) (A := [.inl (1, 100), .inr (.inr (some (.inl 55)))]) (as := [.inr (.inr (some (.inl 55))), .inl (1, 100)]) (H := HL_R2_w100) (H2 := HL_R2_z0) hΦ s_X12_law_y100 ⟨⟨_, rfl, g1⟩, rfl, trivial⟩ q2 rfl (by decide +kernel) (by decide +kernel) (by decide +kernel) (by decide +kernel) (fun τ2 p2 p3 y h2 q4 => ?_)
  exact K (upT τ2 202 0) h2 p2 ⟨RR_up 0 (by omega) upT_at (RR_to (fun t ht => p3 t (kT_202 ht)) hz).2, Or.inr (Or.inr (mvH (k := 202) (c := 0) rfl (fun t ht => upT_ne ht) (by rw [upT_at]; rfl) (by decide) (by decide +kernel) q4))⟩

set_option maxRecDepth 100000 in
theorem g_law_law_R1_y120 {l : Launch} {Ls : Nat} {xs : Nat → Int32} {c18 : Blk} {τ : Nat → List (Option Nat)} {h : PH} {j : Nat} (hΦ : Φ τ) (hz : RR τ) (hj : 6 * j + 6 ≤ Ls) (hL : Ls ≤ 3072) (hh : all2 (gC ρ0 τ) HL_R1 h) (K : ∀ (τ2 : Nat → List (Option Nat)) (h2 : PH), Φ τ2 → HH τ2 h2 → c18 [some (.inr (some (.inr []))), some (.inr (some (.inl 0))), some (.inr (some (.inl 55))), some (.inl (f_add (nI (6 * j)) 6))] [] h2) (g1 : 1 ≤ (xs (f_add (nI (6 * j)) 1).toNatClampNeg).toInt ∧ (xs (f_add (nI (6 * j)) 1).toNatClampNeg).toInt ≤ 120) (hs : 120 ≤ (decA (τ 202) 0).toInt ∧ (decA (τ 202) 0).toInt ≤ 260) : b_L_law_270 l Ls xs c18 [some (.inr (some (.inr []))), some (.inr (some (.inl 0))), some (.inr (some (.inl 55))), some (.inl (nI (6 * j)))] [] h := by
  have hh := fyH (k := 202) (c := 120) (d := 260) (E := HL_R1_y120) rfl hs.1 hs.2 (by decide +kernel) hh
  refine And.intro (sv (k := 1) hj hL (by omega)) ?_
  refine callT (τ := τ) (tm := tmO [3, 9, 14, 19, 24, 27, 29, 32, 35, 39, 40]) (A := [.inl (1, 120), .inr (.inr (some (.inl 0)))]) (H := HL_R1_y120) (Ts := [([.inl (-2147483648, 2147483647)], HL_S1_w120), ([.inl (-2147483648, 2147483647)], HL_R2_w120)]) hΦ s_X11_law_R_y120 ⟨⟨_, rfl, g1⟩, rfl, trivial⟩ hh (by decide +kernel) (fun T hT st h1 q1 q2 => ?_)
  rcases List.mem_cons.mp hT with rfl | hT
  · obtain ⟨v, rfl, _⟩ := st1 q1
    refine And.intro (sv (k := 1) hj hL (by omega)) ?_
    refine callL (τ := τ) (tm := tmO [56, 57, 58, 59, 60, 61, 62, 63, 76, 77, 78, 79, 80, 81, 82, 83, 84, 85, 86]) (A := [.inl (1, 120), .inr (.inr (some (.inl 55)))]) (as := [.inr (.inr (some (.inl 55))), .inl (1, 120)]) (H := HL_S1_w120) (H2 := HL_S1_z0) hΦ s_X12_law_y120 ⟨⟨_, rfl, g1⟩, rfl, trivial⟩ q2 rfl (by decide +kernel) (by decide +kernel) (by decide +kernel) (by decide +kernel) (fun τ2 p2 p3 y h2 q4 => ?_)
    exact K (upT τ2 202 0) h2 p2 ⟨RR_up 0 (by omega) upT_at (RR_to (fun t ht => p3 t (kT_202 ht)) hz).2, Or.inl (Or.inl (mvH (k := 202) (c := 0) rfl (fun t ht => upT_ne ht) (by rw [upT_at]; rfl) (by decide) (by decide +kernel) q4))⟩
  cases List.mem_singleton.mp hT
  obtain ⟨v, rfl, _⟩ := st1 q1
  refine And.intro (sv (k := 1) hj hL (by omega)) ?_
  refine callL (τ := τ) (tm := tmO [56, 57, 58, 59, 60, 61, 62, 63, 76, 77, 78, 79, 80, 81, 82, 83, 84, 85, 86]) (A := [.inl (1, 120), .inr (.inr (some (.inl 55)))]) (as := [.inr (.inr (some (.inl 55))), .inl (1, 120)]) (H := HL_R2_w120) (H2 := HL_R2_z0) hΦ s_X12_law_y120 ⟨⟨_, rfl, g1⟩, rfl, trivial⟩ q2 rfl (by decide +kernel) (by decide +kernel) (by decide +kernel) (by decide +kernel) (fun τ2 p2 p3 y h2 q4 => ?_)
  exact K (upT τ2 202 0) h2 p2 ⟨RR_up 0 (by omega) upT_at (RR_to (fun t ht => p3 t (kT_202 ht)) hz).2, Or.inr (Or.inr (mvH (k := 202) (c := 0) rfl (fun t ht => upT_ne ht) (by rw [upT_at]; rfl) (by decide) (by decide +kernel) q4))⟩

set_option maxRecDepth 100000 in
theorem g_law_law_R1_y140 {l : Launch} {Ls : Nat} {xs : Nat → Int32} {c18 : Blk} {τ : Nat → List (Option Nat)} {h : PH} {j : Nat} (hΦ : Φ τ) (hz : RR τ) (hj : 6 * j + 6 ≤ Ls) (hL : Ls ≤ 3072) (hh : all2 (gC ρ0 τ) HL_R1 h) (K : ∀ (τ2 : Nat → List (Option Nat)) (h2 : PH), Φ τ2 → HH τ2 h2 → c18 [some (.inr (some (.inr []))), some (.inr (some (.inl 0))), some (.inr (some (.inl 55))), some (.inl (f_add (nI (6 * j)) 6))] [] h2) (g1 : 1 ≤ (xs (f_add (nI (6 * j)) 1).toNatClampNeg).toInt ∧ (xs (f_add (nI (6 * j)) 1).toNatClampNeg).toInt ≤ 140) (hs : 140 ≤ (decA (τ 202) 0).toInt ∧ (decA (τ 202) 0).toInt ≤ 260) : b_L_law_270 l Ls xs c18 [some (.inr (some (.inr []))), some (.inr (some (.inl 0))), some (.inr (some (.inl 55))), some (.inl (nI (6 * j)))] [] h := by
  have hh := fyH (k := 202) (c := 140) (d := 260) (E := HL_R1_y140) rfl hs.1 hs.2 (by decide +kernel) hh
  refine And.intro (sv (k := 1) hj hL (by omega)) ?_
  refine callT (τ := τ) (tm := tmO [3, 9, 14, 19, 24, 27, 29, 32, 35, 39, 40]) (A := [.inl (1, 140), .inr (.inr (some (.inl 0)))]) (H := HL_R1_y140) (Ts := [([.inl (-2147483648, 2147483647)], HL_S1_w140), ([.inl (-2147483648, 2147483647)], HL_R2_w140)]) hΦ s_X11_law_R_y140 ⟨⟨_, rfl, g1⟩, rfl, trivial⟩ hh (by decide +kernel) (fun T hT st h1 q1 q2 => ?_)
  rcases List.mem_cons.mp hT with rfl | hT
  · obtain ⟨v, rfl, _⟩ := st1 q1
    refine And.intro (sv (k := 1) hj hL (by omega)) ?_
    refine callL (τ := τ) (tm := tmO [56, 57, 58, 59, 60, 61, 62, 63, 76, 77, 78, 79, 80, 81, 82, 83, 84, 85, 86]) (A := [.inl (1, 140), .inr (.inr (some (.inl 55)))]) (as := [.inr (.inr (some (.inl 55))), .inl (1, 140)]) (H := HL_S1_w140) (H2 := HL_S1_z0) hΦ s_X12_law_y140 ⟨⟨_, rfl, g1⟩, rfl, trivial⟩ q2 rfl (by decide +kernel) (by decide +kernel) (by decide +kernel) (by decide +kernel) (fun τ2 p2 p3 y h2 q4 => ?_)
    exact K (upT τ2 202 0) h2 p2 ⟨RR_up 0 (by omega) upT_at (RR_to (fun t ht => p3 t (kT_202 ht)) hz).2, Or.inl (Or.inl (mvH (k := 202) (c := 0) rfl (fun t ht => upT_ne ht) (by rw [upT_at]; rfl) (by decide) (by decide +kernel) q4))⟩
  cases List.mem_singleton.mp hT
  obtain ⟨v, rfl, _⟩ := st1 q1
  refine And.intro (sv (k := 1) hj hL (by omega)) ?_
  refine callL (τ := τ) (tm := tmO [56, 57, 58, 59, 60, 61, 62, 63, 76, 77, 78, 79, 80, 81, 82, 83, 84, 85, 86]) (A := [.inl (1, 140), .inr (.inr (some (.inl 55)))]) (as := [.inr (.inr (some (.inl 55))), .inl (1, 140)]) (H := HL_R2_w140) (H2 := HL_R2_z0) hΦ s_X12_law_y140 ⟨⟨_, rfl, g1⟩, rfl, trivial⟩ q2 rfl (by decide +kernel) (by decide +kernel) (by decide +kernel) (by decide +kernel) (fun τ2 p2 p3 y h2 q4 => ?_)
  exact K (upT τ2 202 0) h2 p2 ⟨RR_up 0 (by omega) upT_at (RR_to (fun t ht => p3 t (kT_202 ht)) hz).2, Or.inr (Or.inr (mvH (k := 202) (c := 0) rfl (fun t ht => upT_ne ht) (by rw [upT_at]; rfl) (by decide) (by decide +kernel) q4))⟩

set_option maxRecDepth 100000 in
theorem g_law_law_R1_y160 {l : Launch} {Ls : Nat} {xs : Nat → Int32} {c18 : Blk} {τ : Nat → List (Option Nat)} {h : PH} {j : Nat} (hΦ : Φ τ) (hz : RR τ) (hj : 6 * j + 6 ≤ Ls) (hL : Ls ≤ 3072) (hh : all2 (gC ρ0 τ) HL_R1 h) (K : ∀ (τ2 : Nat → List (Option Nat)) (h2 : PH), Φ τ2 → HH τ2 h2 → c18 [some (.inr (some (.inr []))), some (.inr (some (.inl 0))), some (.inr (some (.inl 55))), some (.inl (f_add (nI (6 * j)) 6))] [] h2) (g1 : 1 ≤ (xs (f_add (nI (6 * j)) 1).toNatClampNeg).toInt ∧ (xs (f_add (nI (6 * j)) 1).toNatClampNeg).toInt ≤ 160) (hs : 160 ≤ (decA (τ 202) 0).toInt ∧ (decA (τ 202) 0).toInt ≤ 260) : b_L_law_270 l Ls xs c18 [some (.inr (some (.inr []))), some (.inr (some (.inl 0))), some (.inr (some (.inl 55))), some (.inl (nI (6 * j)))] [] h := by
  have hh := fyH (k := 202) (c := 160) (d := 260) (E := HL_R1_y160) rfl hs.1 hs.2 (by decide +kernel) hh
  refine And.intro (sv (k := 1) hj hL (by omega)) ?_
  refine callT (τ := τ) (tm := tmO [3, 9, 14, 19, 24, 27, 29, 32, 35, 39, 40]) (A := [.inl (1, 160), .inr (.inr (some (.inl 0)))]) (H := HL_R1_y160) (Ts := [([.inl (-2147483648, 2147483647)], HL_S1_w160), ([.inl (-2147483648, 2147483647)], HL_R2_w160)]) hΦ s_X11_law_R_y160 ⟨⟨_, rfl, g1⟩, rfl, trivial⟩ hh (by decide +kernel) (fun T hT st h1 q1 q2 => ?_)
  rcases List.mem_cons.mp hT with rfl | hT
  · obtain ⟨v, rfl, _⟩ := st1 q1
    refine And.intro (sv (k := 1) hj hL (by omega)) ?_
    refine callL (τ := τ) (tm := tmO [56, 57, 58, 59, 60, 61, 62, 63, 76, 77, 78, 79, 80, 81, 82, 83, 84, 85, 86]) (A := [.inl (1, 160), .inr (.inr (some (.inl 55)))]) (as := [.inr (.inr (some (.inl 55))), .inl (1, 160)]) (H := HL_S1_w160) (H2 := HL_S1_z0) hΦ s_X12_law_y160 ⟨⟨_, rfl, g1⟩, rfl, trivial⟩ q2 rfl (by decide +kernel) (by decide +kernel) (by decide +kernel) (by decide +kernel) (fun τ2 p2 p3 y h2 q4 => ?_)
    exact K (upT τ2 202 0) h2 p2 ⟨RR_up 0 (by omega) upT_at (RR_to (fun t ht => p3 t (kT_202 ht)) hz).2, Or.inl (Or.inl (mvH (k := 202) (c := 0) rfl (fun t ht => upT_ne ht) (by rw [upT_at]; rfl) (by decide) (by decide +kernel) q4))⟩
  cases List.mem_singleton.mp hT
  obtain ⟨v, rfl, _⟩ := st1 q1
  refine And.intro (sv (k := 1) hj hL (by omega)) ?_
  refine callL (τ := τ) (tm := tmO [56, 57, 58, 59, 60, 61, 62, 63, 76, 77, 78, 79, 80, 81, 82, 83, 84, 85, 86]) (A := [.inl (1, 160), .inr (.inr (some (.inl 55)))]) (as := [.inr (.inr (some (.inl 55))), .inl (1, 160)]) (H := HL_R2_w160) (H2 := HL_R2_z0) hΦ s_X12_law_y160 ⟨⟨_, rfl, g1⟩, rfl, trivial⟩ q2 rfl (by decide +kernel) (by decide +kernel) (by decide +kernel) (by decide +kernel) (fun τ2 p2 p3 y h2 q4 => ?_)
  exact K (upT τ2 202 0) h2 p2 ⟨RR_up 0 (by omega) upT_at (RR_to (fun t ht => p3 t (kT_202 ht)) hz).2, Or.inr (Or.inr (mvH (k := 202) (c := 0) rfl (fun t ht => upT_ne ht) (by rw [upT_at]; rfl) (by decide) (by decide +kernel) q4))⟩

set_option maxRecDepth 100000 in
theorem g_law_law_R1_y180 {l : Launch} {Ls : Nat} {xs : Nat → Int32} {c18 : Blk} {τ : Nat → List (Option Nat)} {h : PH} {j : Nat} (hΦ : Φ τ) (hz : RR τ) (hj : 6 * j + 6 ≤ Ls) (hL : Ls ≤ 3072) (hh : all2 (gC ρ0 τ) HL_R1 h) (K : ∀ (τ2 : Nat → List (Option Nat)) (h2 : PH), Φ τ2 → HH τ2 h2 → c18 [some (.inr (some (.inr []))), some (.inr (some (.inl 0))), some (.inr (some (.inl 55))), some (.inl (f_add (nI (6 * j)) 6))] [] h2) (g1 : 1 ≤ (xs (f_add (nI (6 * j)) 1).toNatClampNeg).toInt ∧ (xs (f_add (nI (6 * j)) 1).toNatClampNeg).toInt ≤ 180) (hs : 180 ≤ (decA (τ 202) 0).toInt ∧ (decA (τ 202) 0).toInt ≤ 260) : b_L_law_270 l Ls xs c18 [some (.inr (some (.inr []))), some (.inr (some (.inl 0))), some (.inr (some (.inl 55))), some (.inl (nI (6 * j)))] [] h := by
  have hh := fyH (k := 202) (c := 180) (d := 260) (E := HL_R1_y180) rfl hs.1 hs.2 (by decide +kernel) hh
  refine And.intro (sv (k := 1) hj hL (by omega)) ?_
  refine callT (τ := τ) (tm := tmO [3, 9, 14, 19, 24, 27, 29, 32, 35, 39, 40]) (A := [.inl (1, 180), .inr (.inr (some (.inl 0)))]) (H := HL_R1_y180) (Ts := [([.inl (-2147483648, 2147483647)], HL_S1_w180), ([.inl (-2147483648, 2147483647)], HL_R2_w180)]) hΦ s_X11_law_R_y180 ⟨⟨_, rfl, g1⟩, rfl, trivial⟩ hh (by decide +kernel) (fun T hT st h1 q1 q2 => ?_)
  rcases List.mem_cons.mp hT with rfl | hT
  · obtain ⟨v, rfl, _⟩ := st1 q1
    refine And.intro (sv (k := 1) hj hL (by omega)) ?_
    refine callL (τ := τ) (tm := tmO [56, 57, 58, 59, 60, 61, 62, 63, 76, 77, 78, 79, 80, 81, 82, 83, 84, 85, 86]) (A := [.inl (1, 180), .inr (.inr (some (.inl 55)))]) (as := [.inr (.inr (some (.inl 55))), .inl (1, 180)]) (H := HL_S1_w180) (H2 := HL_S1_z0) hΦ s_X12_law_y180 ⟨⟨_, rfl, g1⟩, rfl, trivial⟩ q2 rfl (by decide +kernel) (by decide +kernel) (by decide +kernel) (by decide +kernel) (fun τ2 p2 p3 y h2 q4 => ?_)
    exact K (upT τ2 202 0) h2 p2 ⟨RR_up 0 (by omega) upT_at (RR_to (fun t ht => p3 t (kT_202 ht)) hz).2, Or.inl (Or.inl (mvH (k := 202) (c := 0) rfl (fun t ht => upT_ne ht) (by rw [upT_at]; rfl) (by decide) (by decide +kernel) q4))⟩
  cases List.mem_singleton.mp hT
  obtain ⟨v, rfl, _⟩ := st1 q1
  refine And.intro (sv (k := 1) hj hL (by omega)) ?_
  refine callL (τ := τ) (tm := tmO [56, 57, 58, 59, 60, 61, 62, 63, 76, 77, 78, 79, 80, 81, 82, 83, 84, 85, 86]) (A := [.inl (1, 180), .inr (.inr (some (.inl 55)))]) (as := [.inr (.inr (some (.inl 55))), .inl (1, 180)]) (H := HL_R2_w180) (H2 := HL_R2_z0) hΦ s_X12_law_y180 ⟨⟨_, rfl, g1⟩, rfl, trivial⟩ q2 rfl (by decide +kernel) (by decide +kernel) (by decide +kernel) (by decide +kernel) (fun τ2 p2 p3 y h2 q4 => ?_)
  exact K (upT τ2 202 0) h2 p2 ⟨RR_up 0 (by omega) upT_at (RR_to (fun t ht => p3 t (kT_202 ht)) hz).2, Or.inr (Or.inr (mvH (k := 202) (c := 0) rfl (fun t ht => upT_ne ht) (by rw [upT_at]; rfl) (by decide) (by decide +kernel) q4))⟩

set_option maxRecDepth 100000 in
theorem g_law_law_R1_y200 {l : Launch} {Ls : Nat} {xs : Nat → Int32} {c18 : Blk} {τ : Nat → List (Option Nat)} {h : PH} {j : Nat} (hΦ : Φ τ) (hz : RR τ) (hj : 6 * j + 6 ≤ Ls) (hL : Ls ≤ 3072) (hh : all2 (gC ρ0 τ) HL_R1 h) (K : ∀ (τ2 : Nat → List (Option Nat)) (h2 : PH), Φ τ2 → HH τ2 h2 → c18 [some (.inr (some (.inr []))), some (.inr (some (.inl 0))), some (.inr (some (.inl 55))), some (.inl (f_add (nI (6 * j)) 6))] [] h2) (g1 : 1 ≤ (xs (f_add (nI (6 * j)) 1).toNatClampNeg).toInt ∧ (xs (f_add (nI (6 * j)) 1).toNatClampNeg).toInt ≤ 200) (hs : 200 ≤ (decA (τ 202) 0).toInt ∧ (decA (τ 202) 0).toInt ≤ 260) : b_L_law_270 l Ls xs c18 [some (.inr (some (.inr []))), some (.inr (some (.inl 0))), some (.inr (some (.inl 55))), some (.inl (nI (6 * j)))] [] h := by
  have hh := fyH (k := 202) (c := 200) (d := 260) (E := HL_R1_y200) rfl hs.1 hs.2 (by decide +kernel) hh
  refine And.intro (sv (k := 1) hj hL (by omega)) ?_
  refine callT (τ := τ) (tm := tmO [3, 9, 14, 19, 24, 27, 29, 32, 35, 39, 40]) (A := [.inl (1, 200), .inr (.inr (some (.inl 0)))]) (H := HL_R1_y200) (Ts := [([.inl (-2147483648, 2147483647)], HL_S1_w200), ([.inl (-2147483648, 2147483647)], HL_R2_w200)]) hΦ s_X11_law_R_y200 ⟨⟨_, rfl, g1⟩, rfl, trivial⟩ hh (by decide +kernel) (fun T hT st h1 q1 q2 => ?_)
  rcases List.mem_cons.mp hT with rfl | hT
  · obtain ⟨v, rfl, _⟩ := st1 q1
    refine And.intro (sv (k := 1) hj hL (by omega)) ?_
    refine callL (τ := τ) (tm := tmO [56, 57, 58, 59, 60, 61, 62, 63, 76, 77, 78, 79, 80, 81, 82, 83, 84, 85, 86]) (A := [.inl (1, 200), .inr (.inr (some (.inl 55)))]) (as := [.inr (.inr (some (.inl 55))), .inl (1, 200)]) (H := HL_S1_w200) (H2 := HL_S1_z0) hΦ s_X12_law_y200 ⟨⟨_, rfl, g1⟩, rfl, trivial⟩ q2 rfl (by decide +kernel) (by decide +kernel) (by decide +kernel) (by decide +kernel) (fun τ2 p2 p3 y h2 q4 => ?_)
    exact K (upT τ2 202 0) h2 p2 ⟨RR_up 0 (by omega) upT_at (RR_to (fun t ht => p3 t (kT_202 ht)) hz).2, Or.inl (Or.inl (mvH (k := 202) (c := 0) rfl (fun t ht => upT_ne ht) (by rw [upT_at]; rfl) (by decide) (by decide +kernel) q4))⟩
  cases List.mem_singleton.mp hT
  obtain ⟨v, rfl, _⟩ := st1 q1
  refine And.intro (sv (k := 1) hj hL (by omega)) ?_
  refine callL (τ := τ) (tm := tmO [56, 57, 58, 59, 60, 61, 62, 63, 76, 77, 78, 79, 80, 81, 82, 83, 84, 85, 86]) (A := [.inl (1, 200), .inr (.inr (some (.inl 55)))]) (as := [.inr (.inr (some (.inl 55))), .inl (1, 200)]) (H := HL_R2_w200) (H2 := HL_R2_z0) hΦ s_X12_law_y200 ⟨⟨_, rfl, g1⟩, rfl, trivial⟩ q2 rfl (by decide +kernel) (by decide +kernel) (by decide +kernel) (by decide +kernel) (fun τ2 p2 p3 y h2 q4 => ?_)
  exact K (upT τ2 202 0) h2 p2 ⟨RR_up 0 (by omega) upT_at (RR_to (fun t ht => p3 t (kT_202 ht)) hz).2, Or.inr (Or.inr (mvH (k := 202) (c := 0) rfl (fun t ht => upT_ne ht) (by rw [upT_at]; rfl) (by decide) (by decide +kernel) q4))⟩

set_option maxRecDepth 100000 in
theorem g_law_law_R1_y220 {l : Launch} {Ls : Nat} {xs : Nat → Int32} {c18 : Blk} {τ : Nat → List (Option Nat)} {h : PH} {j : Nat} (hΦ : Φ τ) (hz : RR τ) (hj : 6 * j + 6 ≤ Ls) (hL : Ls ≤ 3072) (hh : all2 (gC ρ0 τ) HL_R1 h) (K : ∀ (τ2 : Nat → List (Option Nat)) (h2 : PH), Φ τ2 → HH τ2 h2 → c18 [some (.inr (some (.inr []))), some (.inr (some (.inl 0))), some (.inr (some (.inl 55))), some (.inl (f_add (nI (6 * j)) 6))] [] h2) (g1 : 1 ≤ (xs (f_add (nI (6 * j)) 1).toNatClampNeg).toInt ∧ (xs (f_add (nI (6 * j)) 1).toNatClampNeg).toInt ≤ 220) (hs : 220 ≤ (decA (τ 202) 0).toInt ∧ (decA (τ 202) 0).toInt ≤ 260) : b_L_law_270 l Ls xs c18 [some (.inr (some (.inr []))), some (.inr (some (.inl 0))), some (.inr (some (.inl 55))), some (.inl (nI (6 * j)))] [] h := by
  have hh := fyH (k := 202) (c := 220) (d := 260) (E := HL_R1_y220) rfl hs.1 hs.2 (by decide +kernel) hh
  refine And.intro (sv (k := 1) hj hL (by omega)) ?_
  refine callT (τ := τ) (tm := tmO [3, 9, 14, 19, 24, 27, 29, 32, 35, 39, 40]) (A := [.inl (1, 220), .inr (.inr (some (.inl 0)))]) (H := HL_R1_y220) (Ts := [([.inl (-2147483648, 2147483647)], HL_S1_w220), ([.inl (-2147483648, 2147483647)], HL_R2_w220)]) hΦ s_X11_law_R_y220 ⟨⟨_, rfl, g1⟩, rfl, trivial⟩ hh (by decide +kernel) (fun T hT st h1 q1 q2 => ?_)
  rcases List.mem_cons.mp hT with rfl | hT
  · obtain ⟨v, rfl, _⟩ := st1 q1
    refine And.intro (sv (k := 1) hj hL (by omega)) ?_
    refine callL (τ := τ) (tm := tmO [56, 57, 58, 59, 60, 61, 62, 63, 76, 77, 78, 79, 80, 81, 82, 83, 84, 85, 86]) (A := [.inl (1, 220), .inr (.inr (some (.inl 55)))]) (as := [.inr (.inr (some (.inl 55))), .inl (1, 220)]) (H := HL_S1_w220) (H2 := HL_S1_z0) hΦ s_X12_law_y220 ⟨⟨_, rfl, g1⟩, rfl, trivial⟩ q2 rfl (by decide +kernel) (by decide +kernel) (by decide +kernel) (by decide +kernel) (fun τ2 p2 p3 y h2 q4 => ?_)
    exact K (upT τ2 202 0) h2 p2 ⟨RR_up 0 (by omega) upT_at (RR_to (fun t ht => p3 t (kT_202 ht)) hz).2, Or.inl (Or.inl (mvH (k := 202) (c := 0) rfl (fun t ht => upT_ne ht) (by rw [upT_at]; rfl) (by decide) (by decide +kernel) q4))⟩
  cases List.mem_singleton.mp hT
  obtain ⟨v, rfl, _⟩ := st1 q1
  refine And.intro (sv (k := 1) hj hL (by omega)) ?_
  refine callL (τ := τ) (tm := tmO [56, 57, 58, 59, 60, 61, 62, 63, 76, 77, 78, 79, 80, 81, 82, 83, 84, 85, 86]) (A := [.inl (1, 220), .inr (.inr (some (.inl 55)))]) (as := [.inr (.inr (some (.inl 55))), .inl (1, 220)]) (H := HL_R2_w220) (H2 := HL_R2_z0) hΦ s_X12_law_y220 ⟨⟨_, rfl, g1⟩, rfl, trivial⟩ q2 rfl (by decide +kernel) (by decide +kernel) (by decide +kernel) (by decide +kernel) (fun τ2 p2 p3 y h2 q4 => ?_)
  exact K (upT τ2 202 0) h2 p2 ⟨RR_up 0 (by omega) upT_at (RR_to (fun t ht => p3 t (kT_202 ht)) hz).2, Or.inr (Or.inr (mvH (k := 202) (c := 0) rfl (fun t ht => upT_ne ht) (by rw [upT_at]; rfl) (by decide) (by decide +kernel) q4))⟩

set_option maxRecDepth 100000 in
theorem g_law_law_R1_y240 {l : Launch} {Ls : Nat} {xs : Nat → Int32} {c18 : Blk} {τ : Nat → List (Option Nat)} {h : PH} {j : Nat} (hΦ : Φ τ) (hz : RR τ) (hj : 6 * j + 6 ≤ Ls) (hL : Ls ≤ 3072) (hh : all2 (gC ρ0 τ) HL_R1 h) (K : ∀ (τ2 : Nat → List (Option Nat)) (h2 : PH), Φ τ2 → HH τ2 h2 → c18 [some (.inr (some (.inr []))), some (.inr (some (.inl 0))), some (.inr (some (.inl 55))), some (.inl (f_add (nI (6 * j)) 6))] [] h2) (g1 : 1 ≤ (xs (f_add (nI (6 * j)) 1).toNatClampNeg).toInt ∧ (xs (f_add (nI (6 * j)) 1).toNatClampNeg).toInt ≤ 240) (hs : 240 ≤ (decA (τ 202) 0).toInt ∧ (decA (τ 202) 0).toInt ≤ 260) : b_L_law_270 l Ls xs c18 [some (.inr (some (.inr []))), some (.inr (some (.inl 0))), some (.inr (some (.inl 55))), some (.inl (nI (6 * j)))] [] h := by
  have hh := fyH (k := 202) (c := 240) (d := 260) (E := HL_R1_y240) rfl hs.1 hs.2 (by decide +kernel) hh
  refine And.intro (sv (k := 1) hj hL (by omega)) ?_
  refine callT (τ := τ) (tm := tmO [3, 9, 14, 19, 24, 27, 29, 32, 35, 39, 40]) (A := [.inl (1, 240), .inr (.inr (some (.inl 0)))]) (H := HL_R1_y240) (Ts := [([.inl (-2147483648, 2147483647)], HL_S1_w240), ([.inl (-2147483648, 2147483647)], HL_R2_w240)]) hΦ s_X11_law_R_y240 ⟨⟨_, rfl, g1⟩, rfl, trivial⟩ hh (by decide +kernel) (fun T hT st h1 q1 q2 => ?_)
  rcases List.mem_cons.mp hT with rfl | hT
  · obtain ⟨v, rfl, _⟩ := st1 q1
    refine And.intro (sv (k := 1) hj hL (by omega)) ?_
    refine callL (τ := τ) (tm := tmO [56, 57, 58, 59, 60, 61, 62, 63, 76, 77, 78, 79, 80, 81, 82, 83, 84, 85, 86]) (A := [.inl (1, 240), .inr (.inr (some (.inl 55)))]) (as := [.inr (.inr (some (.inl 55))), .inl (1, 240)]) (H := HL_S1_w240) (H2 := HL_S1_z0) hΦ s_X12_law_y240 ⟨⟨_, rfl, g1⟩, rfl, trivial⟩ q2 rfl (by decide +kernel) (by decide +kernel) (by decide +kernel) (by decide +kernel) (fun τ2 p2 p3 y h2 q4 => ?_)
    exact K (upT τ2 202 0) h2 p2 ⟨RR_up 0 (by omega) upT_at (RR_to (fun t ht => p3 t (kT_202 ht)) hz).2, Or.inl (Or.inl (mvH (k := 202) (c := 0) rfl (fun t ht => upT_ne ht) (by rw [upT_at]; rfl) (by decide) (by decide +kernel) q4))⟩
  cases List.mem_singleton.mp hT
  obtain ⟨v, rfl, _⟩ := st1 q1
  refine And.intro (sv (k := 1) hj hL (by omega)) ?_
  refine callL (τ := τ) (tm := tmO [56, 57, 58, 59, 60, 61, 62, 63, 76, 77, 78, 79, 80, 81, 82, 83, 84, 85, 86]) (A := [.inl (1, 240), .inr (.inr (some (.inl 55)))]) (as := [.inr (.inr (some (.inl 55))), .inl (1, 240)]) (H := HL_R2_w240) (H2 := HL_R2_z0) hΦ s_X12_law_y240 ⟨⟨_, rfl, g1⟩, rfl, trivial⟩ q2 rfl (by decide +kernel) (by decide +kernel) (by decide +kernel) (by decide +kernel) (fun τ2 p2 p3 y h2 q4 => ?_)
  exact K (upT τ2 202 0) h2 p2 ⟨RR_up 0 (by omega) upT_at (RR_to (fun t ht => p3 t (kT_202 ht)) hz).2, Or.inr (Or.inr (mvH (k := 202) (c := 0) rfl (fun t ht => upT_ne ht) (by rw [upT_at]; rfl) (by decide) (by decide +kernel) q4))⟩

set_option maxRecDepth 100000 in
theorem g_law_law_R1_n {l : Launch} {Ls : Nat} {xs : Nat → Int32} {c18 : Blk} {τ : Nat → List (Option Nat)} {h : PH} {j : Nat} (hΦ : Φ τ) (hz : RR τ) (hj : 6 * j + 6 ≤ Ls) (hL : Ls ≤ 3072) (hh : all2 (gC ρ0 τ) HL_R1 h) (K : ∀ (τ2 : Nat → List (Option Nat)) (h2 : PH), Φ τ2 → HH τ2 h2 → c18 [some (.inr (some (.inr []))), some (.inr (some (.inl 0))), some (.inr (some (.inl 55))), some (.inl (f_add (nI (6 * j)) 6))] [] h2) (hN : ¬ nd_law (xs (f_add (nI (6 * j)) 1).toNatClampNeg) (decA (τ 202) 0)) : b_L_law_270 l Ls xs c18 [some (.inr (some (.inr []))), some (.inr (some (.inl 0))), some (.inr (some (.inl 55))), some (.inl (nI (6 * j)))] [] h := by
  refine And.intro (sv (k := 1) hj hL (by omega)) ?_
  refine callSame (τ := τ) (xs := [(xs (f_add (nI (6 * j)) 1).toNatClampNeg)]) (v := -1) (rest := []) (a := 0) (ci := 10) (tm := tmO [3, 9, 14, 19, 24, 27, 29, 32, 35, 39, 40, 40]) (H := HL_R1) hΦ hN i_nlawCR hh (fun K h => h) rfl rfl rfl (by decide +kernel) ?_
  refine And.intro (sv (k := 1) hj hL (by omega)) ?_
  refine callSame (τ := τ) (xs := [(xs (f_add (nI (6 * j)) 1).toNatClampNeg)]) (v := -1) (rest := []) (a := 55) (ci := 11) (tm := tmO [56, 57, 58, 59, 60, 61, 62, 63, 76, 77, 78, 79, 80, 81, 82, 83, 84, 85, 86]) (H := HL_R1) hΦ hN i_nlawR hh (fun K h => h) rfl rfl rfl (by decide +kernel) ?_
  exact K τ h hΦ ⟨hz, Or.inl (Or.inr hh)⟩

theorem g_law_law_R1 {l : Launch} {Ls : Nat} {xs : Nat → Int32} {c18 : Blk} {τ : Nat → List (Option Nat)} {h : PH} {j : Nat} (hΦ : Φ τ) (hz : RR τ) (hj : 6 * j + 6 ≤ Ls) (hL : Ls ≤ 3072) (hh : all2 (gC ρ0 τ) HL_R1 h) (K : ∀ (τ2 : Nat → List (Option Nat)) (h2 : PH), Φ τ2 → HH τ2 h2 → c18 [some (.inr (some (.inr []))), some (.inr (some (.inl 0))), some (.inr (some (.inl 55))), some (.inl (f_add (nI (6 * j)) 6))] [] h2) : b_L_law_270 l Ls xs c18 [some (.inr (some (.inr []))), some (.inr (some (.inl 0))), some (.inr (some (.inl 55))), some (.inl (nI (6 * j)))] [] h := by
  by_cases hN : nd_law (xs (f_add (nI (6 * j)) 1).toNatClampNeg) (decA (τ 202) 0)
  rotate_left
  · exact g_law_law_R1_n hΦ hz hj hL hh K hN
  obtain ⟨q, hq, hs⟩ := hz.1
  have p1 : (1 : Int) ≤ (xs (f_add (nI (6 * j)) 1).toNatClampNeg).toInt ∧ (xs (f_add (nI (6 * j)) 1).toNatClampNeg).toInt ≤ 240 := ⟨ge32 hN.1.1, ge32 hN.1.2⟩
  have ps : (xs (f_add (nI (6 * j)) 1).toNatClampNeg).toInt ≤ (decA (τ 202) 0).toInt := ge32 hN.2
  by_cases c_20 : (xs (f_add (nI (6 * j)) 1).toNatClampNeg).toInt ≤ 20
  · exact g_law_law_R1_y20 hΦ hz hj hL hh K ⟨by omega, by omega⟩ ⟨by omega, by omega⟩
  by_cases c_40 : (xs (f_add (nI (6 * j)) 1).toNatClampNeg).toInt ≤ 40
  · exact g_law_law_R1_y40 hΦ hz hj hL hh K ⟨by omega, by omega⟩ ⟨by omega, by omega⟩
  by_cases c_60 : (xs (f_add (nI (6 * j)) 1).toNatClampNeg).toInt ≤ 60
  · exact g_law_law_R1_y60 hΦ hz hj hL hh K ⟨by omega, by omega⟩ ⟨by omega, by omega⟩
  by_cases c_80 : (xs (f_add (nI (6 * j)) 1).toNatClampNeg).toInt ≤ 80
  · exact g_law_law_R1_y80 hΦ hz hj hL hh K ⟨by omega, by omega⟩ ⟨by omega, by omega⟩
  by_cases c_100 : (xs (f_add (nI (6 * j)) 1).toNatClampNeg).toInt ≤ 100
  · exact g_law_law_R1_y100 hΦ hz hj hL hh K ⟨by omega, by omega⟩ ⟨by omega, by omega⟩
  by_cases c_120 : (xs (f_add (nI (6 * j)) 1).toNatClampNeg).toInt ≤ 120
  · exact g_law_law_R1_y120 hΦ hz hj hL hh K ⟨by omega, by omega⟩ ⟨by omega, by omega⟩
  by_cases c_140 : (xs (f_add (nI (6 * j)) 1).toNatClampNeg).toInt ≤ 140
  · exact g_law_law_R1_y140 hΦ hz hj hL hh K ⟨by omega, by omega⟩ ⟨by omega, by omega⟩
  by_cases c_160 : (xs (f_add (nI (6 * j)) 1).toNatClampNeg).toInt ≤ 160
  · exact g_law_law_R1_y160 hΦ hz hj hL hh K ⟨by omega, by omega⟩ ⟨by omega, by omega⟩
  by_cases c_180 : (xs (f_add (nI (6 * j)) 1).toNatClampNeg).toInt ≤ 180
  · exact g_law_law_R1_y180 hΦ hz hj hL hh K ⟨by omega, by omega⟩ ⟨by omega, by omega⟩
  by_cases c_200 : (xs (f_add (nI (6 * j)) 1).toNatClampNeg).toInt ≤ 200
  · exact g_law_law_R1_y200 hΦ hz hj hL hh K ⟨by omega, by omega⟩ ⟨by omega, by omega⟩
  by_cases c_220 : (xs (f_add (nI (6 * j)) 1).toNatClampNeg).toInt ≤ 220
  · exact g_law_law_R1_y220 hΦ hz hj hL hh K ⟨by omega, by omega⟩ ⟨by omega, by omega⟩
  exact g_law_law_R1_y240 hΦ hz hj hL hh K ⟨by omega, by omega⟩ ⟨by omega, by omega⟩

set_option maxRecDepth 100000 in
theorem g_law_sheet_R1_y20 {l : Launch} {Ls : Nat} {xs : Nat → Int32} {c18 : Blk} {τ : Nat → List (Option Nat)} {h : PH} {j : Nat} (hΦ : Φ τ) (hz : RR τ) (hj : 6 * j + 6 ≤ Ls) (hL : Ls ≤ 3072) (hh : all2 (gC ρ0 τ) HL_R1 h) (K : ∀ (τ2 : Nat → List (Option Nat)) (h2 : PH), Φ τ2 → HH τ2 h2 → c18 [some (.inr (some (.inr []))), some (.inr (some (.inl 0))), some (.inr (some (.inl 55))), some (.inl (f_add (nI (6 * j)) 6))] [] h2) (g1 : 1 ≤ (xs (f_add (nI (6 * j)) 1).toNatClampNeg).toInt ∧ (xs (f_add (nI (6 * j)) 1).toNatClampNeg).toInt ≤ 20) (hs : 20 ≤ (decA (τ 202) 0).toInt ∧ (decA (τ 202) 0).toInt ≤ 260) : b_L_law_293 l Ls xs c18 [some (.inr (some (.inr []))), some (.inr (some (.inl 0))), some (.inr (some (.inl 55))), some (.inl (nI (6 * j)))] [] h := by
  have hh := fyH (k := 202) (c := 20) (d := 260) (E := HL_R1_y20) rfl hs.1 hs.2 (by decide +kernel) hh
  obtain ⟨n, n_, e1⟩ := rng_n (x := (xs (f_add (nI (6 * j)) 1).toNatClampNeg)) (k := 60) (by omega) (by omega)
  have s1 : (nI n).toInt = _ := nI_toInt (by omega)
  have g1 := g1
  rw [e1] at g1
  have rC := x_sheet20C (l := l) (n := n) ⟨by omega, by omega⟩
  rw [← e1] at rC
  have rR := x_sheet20R (l := l) (n := n) ⟨by omega, by omega⟩
  rw [← e1] at rR
  refine And.intro (sv (k := 1) hj hL (by omega)) ?_
  refine callX (τ := τ) (xs := [(xs (f_add (nI (6 * j)) 1).toNatClampNeg)]) (rest := []) (a := 0) (ci := 10) (tm := tmO [14, 19, 24, 27, 29, 35, 54, 39, 40, 47]) (H := HL_R1_y20) (H2 := HL_R1_w20) hΦ trivial rC hh (fun K h => h) rfl rfl rfl (by decide +kernel) (by decide +kernel) (by decide +kernel) (by decide +kernel) (fun τ2 p2 p3 v h1 qv q2 => ?_)
  refine And.intro (sv (k := 1) hj hL (by omega)) ?_
  refine callX (τ := τ2) (xs := [(xs (f_add (nI (6 * j)) 1).toNatClampNeg)]) (rest := []) (a := 55) (ci := 11) (tm := tmO [57, 58, 59, 62, 63, 65, 66, 67, 68, 69, 70, 71, 72, 73, 74, 75, 76, 77, 82, 83, 84, 85, 86]) (H := HL_R1_w20) (H2 := HL_R1_z0) p2 trivial rR q2 (fun K h => h) rfl rfl rfl (by decide +kernel) (by decide +kernel) (by decide +kernel) (by decide +kernel) (fun τ3 p4 p5 w h2 qw q4 => ?_)
  obtain ⟨_, qc⟩ := qv
  obtain ⟨_, qr, r1, r2⟩ := qw
  have qc : shQ (ob (decA (τ 250))) n (decA (τ 204) 0) (decA (τ2 204) 0) (decA (τ 255)) (decA (τ2 255)) (decA (τ 256)) (decA (τ2 256)) := qc
  have qr : shQ (ob (fun i => f_and (decA (τ2 251) i) 255)) n (decA (τ2 205) 0) (decA (τ3 205) 0) (decA (τ2 257)) (decA (τ3 257)) (decA (τ2 258)) (decA (τ3 258)) := qr
  rw [p3 251 rfl, ← ob_same hz.2.1, p3 205 rfl, p3 257 rfl, p3 258 rfl] at qr
  have hmr : MR τ3 := by
    have h := hz.2.2.1
    unfold MR at h ⊢
    rw [p5 203 rfl, p3 203 rfl, p5 252 rfl, p3 252 rfl, p5 253 rfl, p3 253 rfl, p5 254 rfl, p3 254 rfl]
    exact h
  have hsr : SR τ3 := by
    unfold SR
    rw [p5 204 rfl, p5 255 rfl, p5 256 rfl]
    exact SRx_up hz.2.2.2.1 qc qr r1 r2
  have hB : RB τ3 := ⟨by rw [p5 250 rfl, p3 250 rfl, p5 251 rfl, p3 251 rfl]; exact hz.2.1, hmr, hsr, (by have h := hz.2.2.2.2; unfold TR WR at h ⊢; rw [p5 206 rfl, p3 206 rfl, p5 207 rfl, p3 207 rfl, p5 208 rfl, p3 208 rfl, p5 209 rfl, p3 209 rfl, p5 263 rfl, p3 263 rfl, p5 264 rfl, p3 264 rfl]; exact h)⟩
  exact K (upT τ3 202 0) h2 p4 ⟨RR_up 0 (by omega) upT_at hB, Or.inl (Or.inr (mvH (k := 202) (c := 0) rfl (fun t ht => upT_ne ht) (by rw [upT_at]; rfl) (by decide) (by decide +kernel) q4))⟩

set_option maxRecDepth 100000 in
theorem g_law_sheet_R1_y40 {l : Launch} {Ls : Nat} {xs : Nat → Int32} {c18 : Blk} {τ : Nat → List (Option Nat)} {h : PH} {j : Nat} (hΦ : Φ τ) (hz : RR τ) (hj : 6 * j + 6 ≤ Ls) (hL : Ls ≤ 3072) (hh : all2 (gC ρ0 τ) HL_R1 h) (K : ∀ (τ2 : Nat → List (Option Nat)) (h2 : PH), Φ τ2 → HH τ2 h2 → c18 [some (.inr (some (.inr []))), some (.inr (some (.inl 0))), some (.inr (some (.inl 55))), some (.inl (f_add (nI (6 * j)) 6))] [] h2) (g1 : 1 ≤ (xs (f_add (nI (6 * j)) 1).toNatClampNeg).toInt ∧ (xs (f_add (nI (6 * j)) 1).toNatClampNeg).toInt ≤ 40) (hs : 40 ≤ (decA (τ 202) 0).toInt ∧ (decA (τ 202) 0).toInt ≤ 260) : b_L_law_293 l Ls xs c18 [some (.inr (some (.inr []))), some (.inr (some (.inl 0))), some (.inr (some (.inl 55))), some (.inl (nI (6 * j)))] [] h := by
  have hh := fyH (k := 202) (c := 40) (d := 260) (E := HL_R1_y40) rfl hs.1 hs.2 (by decide +kernel) hh
  obtain ⟨n, n_, e1⟩ := rng_n (x := (xs (f_add (nI (6 * j)) 1).toNatClampNeg)) (k := 60) (by omega) (by omega)
  have s1 : (nI n).toInt = _ := nI_toInt (by omega)
  have g1 := g1
  rw [e1] at g1
  have rC := x_sheet40C (l := l) (n := n) ⟨by omega, by omega⟩
  rw [← e1] at rC
  have rR := x_sheet40R (l := l) (n := n) ⟨by omega, by omega⟩
  rw [← e1] at rR
  refine And.intro (sv (k := 1) hj hL (by omega)) ?_
  refine callX (τ := τ) (xs := [(xs (f_add (nI (6 * j)) 1).toNatClampNeg)]) (rest := []) (a := 0) (ci := 10) (tm := tmO [14, 19, 24, 27, 29, 35, 54, 39, 40, 47]) (H := HL_R1_y40) (H2 := HL_R1_w40) hΦ trivial rC hh (fun K h => h) rfl rfl rfl (by decide +kernel) (by decide +kernel) (by decide +kernel) (by decide +kernel) (fun τ2 p2 p3 v h1 qv q2 => ?_)
  refine And.intro (sv (k := 1) hj hL (by omega)) ?_
  refine callX (τ := τ2) (xs := [(xs (f_add (nI (6 * j)) 1).toNatClampNeg)]) (rest := []) (a := 55) (ci := 11) (tm := tmO [57, 58, 59, 62, 63, 65, 66, 67, 68, 69, 70, 71, 72, 73, 74, 75, 76, 77, 82, 83, 84, 85, 86]) (H := HL_R1_w40) (H2 := HL_R1_z0) p2 trivial rR q2 (fun K h => h) rfl rfl rfl (by decide +kernel) (by decide +kernel) (by decide +kernel) (by decide +kernel) (fun τ3 p4 p5 w h2 qw q4 => ?_)
  obtain ⟨_, qc⟩ := qv
  obtain ⟨_, qr, r1, r2⟩ := qw
  have qc : shQ (ob (decA (τ 250))) n (decA (τ 204) 0) (decA (τ2 204) 0) (decA (τ 255)) (decA (τ2 255)) (decA (τ 256)) (decA (τ2 256)) := qc
  have qr : shQ (ob (fun i => f_and (decA (τ2 251) i) 255)) n (decA (τ2 205) 0) (decA (τ3 205) 0) (decA (τ2 257)) (decA (τ3 257)) (decA (τ2 258)) (decA (τ3 258)) := qr
  rw [p3 251 rfl, ← ob_same hz.2.1, p3 205 rfl, p3 257 rfl, p3 258 rfl] at qr
  have hmr : MR τ3 := by
    have h := hz.2.2.1
    unfold MR at h ⊢
    rw [p5 203 rfl, p3 203 rfl, p5 252 rfl, p3 252 rfl, p5 253 rfl, p3 253 rfl, p5 254 rfl, p3 254 rfl]
    exact h
  have hsr : SR τ3 := by
    unfold SR
    rw [p5 204 rfl, p5 255 rfl, p5 256 rfl]
    exact SRx_up hz.2.2.2.1 qc qr r1 r2
  have hB : RB τ3 := ⟨by rw [p5 250 rfl, p3 250 rfl, p5 251 rfl, p3 251 rfl]; exact hz.2.1, hmr, hsr, (by have h := hz.2.2.2.2; unfold TR WR at h ⊢; rw [p5 206 rfl, p3 206 rfl, p5 207 rfl, p3 207 rfl, p5 208 rfl, p3 208 rfl, p5 209 rfl, p3 209 rfl, p5 263 rfl, p3 263 rfl, p5 264 rfl, p3 264 rfl]; exact h)⟩
  exact K (upT τ3 202 0) h2 p4 ⟨RR_up 0 (by omega) upT_at hB, Or.inl (Or.inr (mvH (k := 202) (c := 0) rfl (fun t ht => upT_ne ht) (by rw [upT_at]; rfl) (by decide) (by decide +kernel) q4))⟩

set_option maxRecDepth 100000 in
theorem g_law_sheet_R1_y60 {l : Launch} {Ls : Nat} {xs : Nat → Int32} {c18 : Blk} {τ : Nat → List (Option Nat)} {h : PH} {j : Nat} (hΦ : Φ τ) (hz : RR τ) (hj : 6 * j + 6 ≤ Ls) (hL : Ls ≤ 3072) (hh : all2 (gC ρ0 τ) HL_R1 h) (K : ∀ (τ2 : Nat → List (Option Nat)) (h2 : PH), Φ τ2 → HH τ2 h2 → c18 [some (.inr (some (.inr []))), some (.inr (some (.inl 0))), some (.inr (some (.inl 55))), some (.inl (f_add (nI (6 * j)) 6))] [] h2) (g1 : 1 ≤ (xs (f_add (nI (6 * j)) 1).toNatClampNeg).toInt ∧ (xs (f_add (nI (6 * j)) 1).toNatClampNeg).toInt ≤ 60) (hs : 60 ≤ (decA (τ 202) 0).toInt ∧ (decA (τ 202) 0).toInt ≤ 260) : b_L_law_293 l Ls xs c18 [some (.inr (some (.inr []))), some (.inr (some (.inl 0))), some (.inr (some (.inl 55))), some (.inl (nI (6 * j)))] [] h := by
  have hh := fyH (k := 202) (c := 60) (d := 260) (E := HL_R1_y60) rfl hs.1 hs.2 (by decide +kernel) hh
  obtain ⟨n, n_, e1⟩ := rng_n (x := (xs (f_add (nI (6 * j)) 1).toNatClampNeg)) (k := 60) (by omega) (by omega)
  have s1 : (nI n).toInt = _ := nI_toInt (by omega)
  have g1 := g1
  rw [e1] at g1
  have rC := x_sheet60C (l := l) (n := n) ⟨by omega, by omega⟩
  rw [← e1] at rC
  have rR := x_sheet60R (l := l) (n := n) ⟨by omega, by omega⟩
  rw [← e1] at rR
  refine And.intro (sv (k := 1) hj hL (by omega)) ?_
  refine callX (τ := τ) (xs := [(xs (f_add (nI (6 * j)) 1).toNatClampNeg)]) (rest := []) (a := 0) (ci := 10) (tm := tmO [14, 19, 24, 27, 29, 35, 54, 39, 40, 47]) (H := HL_R1_y60) (H2 := HL_R1_w60) hΦ trivial rC hh (fun K h => h) rfl rfl rfl (by decide +kernel) (by decide +kernel) (by decide +kernel) (by decide +kernel) (fun τ2 p2 p3 v h1 qv q2 => ?_)
  refine And.intro (sv (k := 1) hj hL (by omega)) ?_
  refine callX (τ := τ2) (xs := [(xs (f_add (nI (6 * j)) 1).toNatClampNeg)]) (rest := []) (a := 55) (ci := 11) (tm := tmO [57, 58, 59, 62, 63, 65, 66, 67, 68, 69, 70, 71, 72, 73, 74, 75, 76, 77, 82, 83, 84, 85, 86]) (H := HL_R1_w60) (H2 := HL_R1_z0) p2 trivial rR q2 (fun K h => h) rfl rfl rfl (by decide +kernel) (by decide +kernel) (by decide +kernel) (by decide +kernel) (fun τ3 p4 p5 w h2 qw q4 => ?_)
  obtain ⟨_, qc⟩ := qv
  obtain ⟨_, qr, r1, r2⟩ := qw
  have qc : shQ (ob (decA (τ 250))) n (decA (τ 204) 0) (decA (τ2 204) 0) (decA (τ 255)) (decA (τ2 255)) (decA (τ 256)) (decA (τ2 256)) := qc
  have qr : shQ (ob (fun i => f_and (decA (τ2 251) i) 255)) n (decA (τ2 205) 0) (decA (τ3 205) 0) (decA (τ2 257)) (decA (τ3 257)) (decA (τ2 258)) (decA (τ3 258)) := qr
  rw [p3 251 rfl, ← ob_same hz.2.1, p3 205 rfl, p3 257 rfl, p3 258 rfl] at qr
  have hmr : MR τ3 := by
    have h := hz.2.2.1
    unfold MR at h ⊢
    rw [p5 203 rfl, p3 203 rfl, p5 252 rfl, p3 252 rfl, p5 253 rfl, p3 253 rfl, p5 254 rfl, p3 254 rfl]
    exact h
  have hsr : SR τ3 := by
    unfold SR
    rw [p5 204 rfl, p5 255 rfl, p5 256 rfl]
    exact SRx_up hz.2.2.2.1 qc qr r1 r2
  have hB : RB τ3 := ⟨by rw [p5 250 rfl, p3 250 rfl, p5 251 rfl, p3 251 rfl]; exact hz.2.1, hmr, hsr, (by have h := hz.2.2.2.2; unfold TR WR at h ⊢; rw [p5 206 rfl, p3 206 rfl, p5 207 rfl, p3 207 rfl, p5 208 rfl, p3 208 rfl, p5 209 rfl, p3 209 rfl, p5 263 rfl, p3 263 rfl, p5 264 rfl, p3 264 rfl]; exact h)⟩
  exact K (upT τ3 202 0) h2 p4 ⟨RR_up 0 (by omega) upT_at hB, Or.inl (Or.inr (mvH (k := 202) (c := 0) rfl (fun t ht => upT_ne ht) (by rw [upT_at]; rfl) (by decide) (by decide +kernel) q4))⟩

set_option maxRecDepth 100000 in
theorem g_law_sheet_R1_n {l : Launch} {Ls : Nat} {xs : Nat → Int32} {c18 : Blk} {τ : Nat → List (Option Nat)} {h : PH} {j : Nat} (hΦ : Φ τ) (hz : RR τ) (hj : 6 * j + 6 ≤ Ls) (hL : Ls ≤ 3072) (hh : all2 (gC ρ0 τ) HL_R1 h) (K : ∀ (τ2 : Nat → List (Option Nat)) (h2 : PH), Φ τ2 → HH τ2 h2 → c18 [some (.inr (some (.inr []))), some (.inr (some (.inl 0))), some (.inr (some (.inl 55))), some (.inl (f_add (nI (6 * j)) 6))] [] h2) (hN : ¬ nd_sheet (xs (f_add (nI (6 * j)) 1).toNatClampNeg) (decA (τ 202) 0)) : b_L_law_293 l Ls xs c18 [some (.inr (some (.inr []))), some (.inr (some (.inl 0))), some (.inr (some (.inl 55))), some (.inl (nI (6 * j)))] [] h := by
  refine And.intro (sv (k := 1) hj hL (by omega)) ?_
  refine callSame (τ := τ) (xs := [(xs (f_add (nI (6 * j)) 1).toNatClampNeg)]) (v := -1) (rest := []) (a := 0) (ci := 10) (tm := tmO [14, 19, 24, 27, 29, 35, 54, 39, 40, 47]) (H := HL_R1) hΦ hN i_nsheetC hh (fun K h => h) rfl rfl rfl (by decide +kernel) ?_
  refine And.intro (sv (k := 1) hj hL (by omega)) ?_
  refine callSame (τ := τ) (xs := [(xs (f_add (nI (6 * j)) 1).toNatClampNeg)]) (v := -1) (rest := []) (a := 55) (ci := 11) (tm := tmO [57, 58, 59, 62, 63, 65, 66, 67, 68, 69, 70, 71, 72, 73, 74, 75, 76, 77, 82, 83, 84, 85, 86]) (H := HL_R1) hΦ hN i_nsheetR hh (fun K h => h) rfl rfl rfl (by decide +kernel) ?_
  exact K τ h hΦ ⟨hz, Or.inl (Or.inr hh)⟩

theorem g_law_sheet_R1 {l : Launch} {Ls : Nat} {xs : Nat → Int32} {c18 : Blk} {τ : Nat → List (Option Nat)} {h : PH} {j : Nat} (hΦ : Φ τ) (hz : RR τ) (hj : 6 * j + 6 ≤ Ls) (hL : Ls ≤ 3072) (hh : all2 (gC ρ0 τ) HL_R1 h) (K : ∀ (τ2 : Nat → List (Option Nat)) (h2 : PH), Φ τ2 → HH τ2 h2 → c18 [some (.inr (some (.inr []))), some (.inr (some (.inl 0))), some (.inr (some (.inl 55))), some (.inl (f_add (nI (6 * j)) 6))] [] h2) : b_L_law_293 l Ls xs c18 [some (.inr (some (.inr []))), some (.inr (some (.inl 0))), some (.inr (some (.inl 55))), some (.inl (nI (6 * j)))] [] h := by
  by_cases hN : nd_sheet (xs (f_add (nI (6 * j)) 1).toNatClampNeg) (decA (τ 202) 0)
  rotate_left
  · exact g_law_sheet_R1_n hΦ hz hj hL hh K hN
  obtain ⟨q, hq, hs⟩ := hz.1
  have p1 : (1 : Int) ≤ (xs (f_add (nI (6 * j)) 1).toNatClampNeg).toInt ∧ (xs (f_add (nI (6 * j)) 1).toNatClampNeg).toInt ≤ 60 := ⟨ge32 hN.1.1, ge32 hN.1.2⟩
  have ps : (xs (f_add (nI (6 * j)) 1).toNatClampNeg).toInt ≤ (decA (τ 202) 0).toInt := ge32 hN.2
  by_cases c_20 : (xs (f_add (nI (6 * j)) 1).toNatClampNeg).toInt ≤ 20
  · exact g_law_sheet_R1_y20 hΦ hz hj hL hh K ⟨by omega, by omega⟩ ⟨by omega, by omega⟩
  by_cases c_40 : (xs (f_add (nI (6 * j)) 1).toNatClampNeg).toInt ≤ 40
  · exact g_law_sheet_R1_y40 hΦ hz hj hL hh K ⟨by omega, by omega⟩ ⟨by omega, by omega⟩
  exact g_law_sheet_R1_y60 hΦ hz hj hL hh K ⟨by omega, by omega⟩ ⟨by omega, by omega⟩

set_option maxRecDepth 100000 in
theorem g_law_post_R1_y20 {l : Launch} {Ls : Nat} {xs : Nat → Int32} {c18 : Blk} {τ : Nat → List (Option Nat)} {h : PH} {j : Nat} (hΦ : Φ τ) (hz : RR τ) (hj : 6 * j + 6 ≤ Ls) (hL : Ls ≤ 3072) (hh : all2 (gC ρ0 τ) HL_R1 h) (K : ∀ (τ2 : Nat → List (Option Nat)) (h2 : PH), Φ τ2 → HH τ2 h2 → c18 [some (.inr (some (.inr []))), some (.inr (some (.inl 0))), some (.inr (some (.inl 55))), some (.inl (f_add (nI (6 * j)) 6))] [] h2) (g1 : 1 ≤ (xs (f_add (nI (6 * j)) 1).toNatClampNeg).toInt ∧ (xs (f_add (nI (6 * j)) 1).toNatClampNeg).toInt ≤ 20) (hs : 20 ≤ (decA (τ 202) 0).toInt ∧ (decA (τ 202) 0).toInt ≤ 260) : b_L_law_316 l Ls xs c18 [some (.inr (some (.inr []))), some (.inr (some (.inl 0))), some (.inr (some (.inl 55))), some (.inl (nI (6 * j)))] [] h := by
  have hh := fyH (k := 202) (c := 20) (d := 260) (E := HL_R1_y20) rfl hs.1 hs.2 (by decide +kernel) hh
  obtain ⟨n, n_, e1⟩ := rng_n (x := (xs (f_add (nI (6 * j)) 1).toNatClampNeg)) (k := 120) (by omega) (by omega)
  have s1 : (nI n).toInt = _ := nI_toInt (by omega)
  have g1 := g1
  rw [e1] at g1
  obtain ⟨c, c1, c2, c3, _⟩ := hz.2.2.2.1
  obtain ⟨⟨T, t1, t2⟩, htK⟩ := hz.2.2.2.2
  have rC := x_post20C (l := l) (n := n) (c := c) (T := T) ⟨by omega, by omega⟩ c1
  rw [← e1] at rC
  have rR := x_post20R (l := l) (n := n) (c := c) (T := T) ⟨by omega, by omega⟩ c1
  rw [← e1] at rR
  refine And.intro (sv (k := 1) hj hL (by omega)) ?_
  refine callX (τ := τ) (xs := [(xs (f_add (nI (6 * j)) 1).toNatClampNeg)]) (rest := []) (a := 0) (ci := 10) (tm := tmO [14, 19, 24, 27, 29, 32, 54, 39, 40, 47]) (H := HL_R1_y20) (H2 := HL_R1_w20) hΦ ⟨c2, t1⟩ rC hh (fun K h => h) rfl rfl rfl (by decide +kernel) (by decide +kernel) (by decide +kernel) (by decide +kernel) (fun τ2 p2 p3 v h1 qv q2 => ?_)
  have pR : decA (τ2 205) 0 = nI c ∧ tdM (decA (τ2 208)) T := by
    rw [p3 205 rfl, p3 208 rfl]
    exact ⟨c3, t2⟩
  refine And.intro (sv (k := 1) hj hL (by omega)) ?_
  refine callX (τ := τ2) (xs := [(xs (f_add (nI (6 * j)) 1).toNatClampNeg)]) (rest := []) (a := 55) (ci := 11) (tm := tmO [58, 59, 60, 61, 65, 66, 67, 68, 69, 70, 71, 72, 73, 74, 75, 76, 77, 78, 79, 80, 81, 82, 83, 84, 85, 86]) (H := HL_R1_w20) (H2 := HL_R1_z0) p2 pR rR q2 (fun K h => h) rfl rfl rfl (by decide +kernel) (by decide +kernel) (by decide +kernel) (by decide +kernel) (fun τ3 p4 p5 w h2 qw q4 => ?_)
  have qv : v = poY (ob (decA (τ 250))) n c T ∧ decA (τ2 206) 0 = nI (poT (ob (decA (τ 250))) n c T) ∧ ∃ F : Nat → Int32, (∀ i, i < 384 → F i = decA (τ 263) i) ∧ ∀ i, i < 384 → decA (τ2 263) i = poW (ob (decA (τ 250))) n c T F i := qv
  have qw : w = poY (ob (fun i => f_and (decA (τ2 251) i) 255)) n c T ∧ tdM (decA (τ3 208)) (poT (ob (fun i => f_and (decA (τ2 251) i) 255)) n c T) ∧ ∃ F : Nat → Int32, (∀ i, i < 384 → F i = decA (τ2 264) i) ∧ ∀ i, i < 384 → decA (τ3 264) i = poW (ob (fun i => f_and (decA (τ2 251) i) 255)) n c T F i := qw
  rw [p3 251 rfl, ← ob_same hz.2.1] at qw
  obtain ⟨F, F1, F2⟩ := qv.2.2
  obtain ⟨G, G1, G2⟩ := qw.2.2
  have hWR : WR τ3 := fun i hi => by
    rw [p5 263 rfl, F2 i hi, G2 i hi]
    exact poW_c (fun j hj => by rw [F1 j hj, G1 j hj, p3 264 rfl]; exact htK.2 j hj) i hi
  have htr : TR τ3 := ⟨⟨poT (ob (decA (τ 250))) n c T, by rw [p5 206 rfl]; exact qv.2.1, qw.2.1⟩, by rw [p5 207 rfl, p3 207 rfl, p5 209 rfl, p3 209 rfl]; exact htK.1, hWR⟩
  have hB : RB τ3 := ⟨(by rw [p5 250 rfl, p3 250 rfl, p5 251 rfl, p3 251 rfl]; exact hz.2.1), (by have h := hz.2.2.1; unfold MR at h ⊢; rw [p5 203 rfl, p3 203 rfl, p5 252 rfl, p3 252 rfl, p5 253 rfl, p3 253 rfl, p5 254 rfl, p3 254 rfl]; exact h), (by have h := hz.2.2.2.1; unfold SR at h ⊢; rw [p5 204 rfl, p3 204 rfl, p5 205 rfl, p3 205 rfl, p5 255 rfl, p3 255 rfl, p5 256 rfl, p3 256 rfl, p5 257 rfl, p3 257 rfl, p5 258 rfl, p3 258 rfl]; exact h), htr⟩
  exact K (upT τ3 202 0) h2 p4 ⟨RR_up 0 (by omega) upT_at hB, Or.inl (Or.inr (mvH (k := 202) (c := 0) rfl (fun t ht => upT_ne ht) (by rw [upT_at]; rfl) (by decide) (by decide +kernel) q4))⟩

set_option maxRecDepth 100000 in
theorem g_law_post_R1_y40 {l : Launch} {Ls : Nat} {xs : Nat → Int32} {c18 : Blk} {τ : Nat → List (Option Nat)} {h : PH} {j : Nat} (hΦ : Φ τ) (hz : RR τ) (hj : 6 * j + 6 ≤ Ls) (hL : Ls ≤ 3072) (hh : all2 (gC ρ0 τ) HL_R1 h) (K : ∀ (τ2 : Nat → List (Option Nat)) (h2 : PH), Φ τ2 → HH τ2 h2 → c18 [some (.inr (some (.inr []))), some (.inr (some (.inl 0))), some (.inr (some (.inl 55))), some (.inl (f_add (nI (6 * j)) 6))] [] h2) (g1 : 1 ≤ (xs (f_add (nI (6 * j)) 1).toNatClampNeg).toInt ∧ (xs (f_add (nI (6 * j)) 1).toNatClampNeg).toInt ≤ 40) (hs : 40 ≤ (decA (τ 202) 0).toInt ∧ (decA (τ 202) 0).toInt ≤ 260) : b_L_law_316 l Ls xs c18 [some (.inr (some (.inr []))), some (.inr (some (.inl 0))), some (.inr (some (.inl 55))), some (.inl (nI (6 * j)))] [] h := by
  have hh := fyH (k := 202) (c := 40) (d := 260) (E := HL_R1_y40) rfl hs.1 hs.2 (by decide +kernel) hh
  obtain ⟨n, n_, e1⟩ := rng_n (x := (xs (f_add (nI (6 * j)) 1).toNatClampNeg)) (k := 120) (by omega) (by omega)
  have s1 : (nI n).toInt = _ := nI_toInt (by omega)
  have g1 := g1
  rw [e1] at g1
  obtain ⟨c, c1, c2, c3, _⟩ := hz.2.2.2.1
  obtain ⟨⟨T, t1, t2⟩, htK⟩ := hz.2.2.2.2
  have rC := x_post40C (l := l) (n := n) (c := c) (T := T) ⟨by omega, by omega⟩ c1
  rw [← e1] at rC
  have rR := x_post40R (l := l) (n := n) (c := c) (T := T) ⟨by omega, by omega⟩ c1
  rw [← e1] at rR
  refine And.intro (sv (k := 1) hj hL (by omega)) ?_
  refine callX (τ := τ) (xs := [(xs (f_add (nI (6 * j)) 1).toNatClampNeg)]) (rest := []) (a := 0) (ci := 10) (tm := tmO [14, 19, 24, 27, 29, 32, 54, 39, 40, 47]) (H := HL_R1_y40) (H2 := HL_R1_w40) hΦ ⟨c2, t1⟩ rC hh (fun K h => h) rfl rfl rfl (by decide +kernel) (by decide +kernel) (by decide +kernel) (by decide +kernel) (fun τ2 p2 p3 v h1 qv q2 => ?_)
  have pR : decA (τ2 205) 0 = nI c ∧ tdM (decA (τ2 208)) T := by
    rw [p3 205 rfl, p3 208 rfl]
    exact ⟨c3, t2⟩
  refine And.intro (sv (k := 1) hj hL (by omega)) ?_
  refine callX (τ := τ2) (xs := [(xs (f_add (nI (6 * j)) 1).toNatClampNeg)]) (rest := []) (a := 55) (ci := 11) (tm := tmO [58, 59, 60, 61, 65, 66, 67, 68, 69, 70, 71, 72, 73, 74, 75, 76, 77, 78, 79, 80, 81, 82, 83, 84, 85, 86]) (H := HL_R1_w40) (H2 := HL_R1_z0) p2 pR rR q2 (fun K h => h) rfl rfl rfl (by decide +kernel) (by decide +kernel) (by decide +kernel) (by decide +kernel) (fun τ3 p4 p5 w h2 qw q4 => ?_)
  have qv : v = poY (ob (decA (τ 250))) n c T ∧ decA (τ2 206) 0 = nI (poT (ob (decA (τ 250))) n c T) ∧ ∃ F : Nat → Int32, (∀ i, i < 384 → F i = decA (τ 263) i) ∧ ∀ i, i < 384 → decA (τ2 263) i = poW (ob (decA (τ 250))) n c T F i := qv
  have qw : w = poY (ob (fun i => f_and (decA (τ2 251) i) 255)) n c T ∧ tdM (decA (τ3 208)) (poT (ob (fun i => f_and (decA (τ2 251) i) 255)) n c T) ∧ ∃ F : Nat → Int32, (∀ i, i < 384 → F i = decA (τ2 264) i) ∧ ∀ i, i < 384 → decA (τ3 264) i = poW (ob (fun i => f_and (decA (τ2 251) i) 255)) n c T F i := qw
  rw [p3 251 rfl, ← ob_same hz.2.1] at qw
  obtain ⟨F, F1, F2⟩ := qv.2.2
  obtain ⟨G, G1, G2⟩ := qw.2.2
  have hWR : WR τ3 := fun i hi => by
    rw [p5 263 rfl, F2 i hi, G2 i hi]
    exact poW_c (fun j hj => by rw [F1 j hj, G1 j hj, p3 264 rfl]; exact htK.2 j hj) i hi
  have htr : TR τ3 := ⟨⟨poT (ob (decA (τ 250))) n c T, by rw [p5 206 rfl]; exact qv.2.1, qw.2.1⟩, by rw [p5 207 rfl, p3 207 rfl, p5 209 rfl, p3 209 rfl]; exact htK.1, hWR⟩
  have hB : RB τ3 := ⟨(by rw [p5 250 rfl, p3 250 rfl, p5 251 rfl, p3 251 rfl]; exact hz.2.1), (by have h := hz.2.2.1; unfold MR at h ⊢; rw [p5 203 rfl, p3 203 rfl, p5 252 rfl, p3 252 rfl, p5 253 rfl, p3 253 rfl, p5 254 rfl, p3 254 rfl]; exact h), (by have h := hz.2.2.2.1; unfold SR at h ⊢; rw [p5 204 rfl, p3 204 rfl, p5 205 rfl, p3 205 rfl, p5 255 rfl, p3 255 rfl, p5 256 rfl, p3 256 rfl, p5 257 rfl, p3 257 rfl, p5 258 rfl, p3 258 rfl]; exact h), htr⟩
  exact K (upT τ3 202 0) h2 p4 ⟨RR_up 0 (by omega) upT_at hB, Or.inl (Or.inr (mvH (k := 202) (c := 0) rfl (fun t ht => upT_ne ht) (by rw [upT_at]; rfl) (by decide) (by decide +kernel) q4))⟩

set_option maxRecDepth 100000 in
theorem g_law_post_R1_y60 {l : Launch} {Ls : Nat} {xs : Nat → Int32} {c18 : Blk} {τ : Nat → List (Option Nat)} {h : PH} {j : Nat} (hΦ : Φ τ) (hz : RR τ) (hj : 6 * j + 6 ≤ Ls) (hL : Ls ≤ 3072) (hh : all2 (gC ρ0 τ) HL_R1 h) (K : ∀ (τ2 : Nat → List (Option Nat)) (h2 : PH), Φ τ2 → HH τ2 h2 → c18 [some (.inr (some (.inr []))), some (.inr (some (.inl 0))), some (.inr (some (.inl 55))), some (.inl (f_add (nI (6 * j)) 6))] [] h2) (g1 : 1 ≤ (xs (f_add (nI (6 * j)) 1).toNatClampNeg).toInt ∧ (xs (f_add (nI (6 * j)) 1).toNatClampNeg).toInt ≤ 60) (hs : 60 ≤ (decA (τ 202) 0).toInt ∧ (decA (τ 202) 0).toInt ≤ 260) : b_L_law_316 l Ls xs c18 [some (.inr (some (.inr []))), some (.inr (some (.inl 0))), some (.inr (some (.inl 55))), some (.inl (nI (6 * j)))] [] h := by
  have hh := fyH (k := 202) (c := 60) (d := 260) (E := HL_R1_y60) rfl hs.1 hs.2 (by decide +kernel) hh
  obtain ⟨n, n_, e1⟩ := rng_n (x := (xs (f_add (nI (6 * j)) 1).toNatClampNeg)) (k := 120) (by omega) (by omega)
  have s1 : (nI n).toInt = _ := nI_toInt (by omega)
  have g1 := g1
  rw [e1] at g1
  obtain ⟨c, c1, c2, c3, _⟩ := hz.2.2.2.1
  obtain ⟨⟨T, t1, t2⟩, htK⟩ := hz.2.2.2.2
  have rC := x_post60C (l := l) (n := n) (c := c) (T := T) ⟨by omega, by omega⟩ c1
  rw [← e1] at rC
  have rR := x_post60R (l := l) (n := n) (c := c) (T := T) ⟨by omega, by omega⟩ c1
  rw [← e1] at rR
  refine And.intro (sv (k := 1) hj hL (by omega)) ?_
  refine callX (τ := τ) (xs := [(xs (f_add (nI (6 * j)) 1).toNatClampNeg)]) (rest := []) (a := 0) (ci := 10) (tm := tmO [14, 19, 24, 27, 29, 32, 54, 39, 40, 47]) (H := HL_R1_y60) (H2 := HL_R1_w60) hΦ ⟨c2, t1⟩ rC hh (fun K h => h) rfl rfl rfl (by decide +kernel) (by decide +kernel) (by decide +kernel) (by decide +kernel) (fun τ2 p2 p3 v h1 qv q2 => ?_)
  have pR : decA (τ2 205) 0 = nI c ∧ tdM (decA (τ2 208)) T := by
    rw [p3 205 rfl, p3 208 rfl]
    exact ⟨c3, t2⟩
  refine And.intro (sv (k := 1) hj hL (by omega)) ?_
  refine callX (τ := τ2) (xs := [(xs (f_add (nI (6 * j)) 1).toNatClampNeg)]) (rest := []) (a := 55) (ci := 11) (tm := tmO [58, 59, 60, 61, 65, 66, 67, 68, 69, 70, 71, 72, 73, 74, 75, 76, 77, 78, 79, 80, 81, 82, 83, 84, 85, 86]) (H := HL_R1_w60) (H2 := HL_R1_z0) p2 pR rR q2 (fun K h => h) rfl rfl rfl (by decide +kernel) (by decide +kernel) (by decide +kernel) (by decide +kernel) (fun τ3 p4 p5 w h2 qw q4 => ?_)
  have qv : v = poY (ob (decA (τ 250))) n c T ∧ decA (τ2 206) 0 = nI (poT (ob (decA (τ 250))) n c T) ∧ ∃ F : Nat → Int32, (∀ i, i < 384 → F i = decA (τ 263) i) ∧ ∀ i, i < 384 → decA (τ2 263) i = poW (ob (decA (τ 250))) n c T F i := qv
  have qw : w = poY (ob (fun i => f_and (decA (τ2 251) i) 255)) n c T ∧ tdM (decA (τ3 208)) (poT (ob (fun i => f_and (decA (τ2 251) i) 255)) n c T) ∧ ∃ F : Nat → Int32, (∀ i, i < 384 → F i = decA (τ2 264) i) ∧ ∀ i, i < 384 → decA (τ3 264) i = poW (ob (fun i => f_and (decA (τ2 251) i) 255)) n c T F i := qw
  rw [p3 251 rfl, ← ob_same hz.2.1] at qw
  obtain ⟨F, F1, F2⟩ := qv.2.2
  obtain ⟨G, G1, G2⟩ := qw.2.2
  have hWR : WR τ3 := fun i hi => by
    rw [p5 263 rfl, F2 i hi, G2 i hi]
    exact poW_c (fun j hj => by rw [F1 j hj, G1 j hj, p3 264 rfl]; exact htK.2 j hj) i hi
  have htr : TR τ3 := ⟨⟨poT (ob (decA (τ 250))) n c T, by rw [p5 206 rfl]; exact qv.2.1, qw.2.1⟩, by rw [p5 207 rfl, p3 207 rfl, p5 209 rfl, p3 209 rfl]; exact htK.1, hWR⟩
  have hB : RB τ3 := ⟨(by rw [p5 250 rfl, p3 250 rfl, p5 251 rfl, p3 251 rfl]; exact hz.2.1), (by have h := hz.2.2.1; unfold MR at h ⊢; rw [p5 203 rfl, p3 203 rfl, p5 252 rfl, p3 252 rfl, p5 253 rfl, p3 253 rfl, p5 254 rfl, p3 254 rfl]; exact h), (by have h := hz.2.2.2.1; unfold SR at h ⊢; rw [p5 204 rfl, p3 204 rfl, p5 205 rfl, p3 205 rfl, p5 255 rfl, p3 255 rfl, p5 256 rfl, p3 256 rfl, p5 257 rfl, p3 257 rfl, p5 258 rfl, p3 258 rfl]; exact h), htr⟩
  exact K (upT τ3 202 0) h2 p4 ⟨RR_up 0 (by omega) upT_at hB, Or.inl (Or.inr (mvH (k := 202) (c := 0) rfl (fun t ht => upT_ne ht) (by rw [upT_at]; rfl) (by decide) (by decide +kernel) q4))⟩

set_option maxRecDepth 100000 in
theorem g_law_post_R1_y80 {l : Launch} {Ls : Nat} {xs : Nat → Int32} {c18 : Blk} {τ : Nat → List (Option Nat)} {h : PH} {j : Nat} (hΦ : Φ τ) (hz : RR τ) (hj : 6 * j + 6 ≤ Ls) (hL : Ls ≤ 3072) (hh : all2 (gC ρ0 τ) HL_R1 h) (K : ∀ (τ2 : Nat → List (Option Nat)) (h2 : PH), Φ τ2 → HH τ2 h2 → c18 [some (.inr (some (.inr []))), some (.inr (some (.inl 0))), some (.inr (some (.inl 55))), some (.inl (f_add (nI (6 * j)) 6))] [] h2) (g1 : 1 ≤ (xs (f_add (nI (6 * j)) 1).toNatClampNeg).toInt ∧ (xs (f_add (nI (6 * j)) 1).toNatClampNeg).toInt ≤ 80) (hs : 80 ≤ (decA (τ 202) 0).toInt ∧ (decA (τ 202) 0).toInt ≤ 260) : b_L_law_316 l Ls xs c18 [some (.inr (some (.inr []))), some (.inr (some (.inl 0))), some (.inr (some (.inl 55))), some (.inl (nI (6 * j)))] [] h := by
  have hh := fyH (k := 202) (c := 80) (d := 260) (E := HL_R1_y80) rfl hs.1 hs.2 (by decide +kernel) hh
  obtain ⟨n, n_, e1⟩ := rng_n (x := (xs (f_add (nI (6 * j)) 1).toNatClampNeg)) (k := 120) (by omega) (by omega)
  have s1 : (nI n).toInt = _ := nI_toInt (by omega)
  have g1 := g1
  rw [e1] at g1
  obtain ⟨c, c1, c2, c3, _⟩ := hz.2.2.2.1
  obtain ⟨⟨T, t1, t2⟩, htK⟩ := hz.2.2.2.2
  have rC := x_post80C (l := l) (n := n) (c := c) (T := T) ⟨by omega, by omega⟩ c1
  rw [← e1] at rC
  have rR := x_post80R (l := l) (n := n) (c := c) (T := T) ⟨by omega, by omega⟩ c1
  rw [← e1] at rR
  refine And.intro (sv (k := 1) hj hL (by omega)) ?_
  refine callX (τ := τ) (xs := [(xs (f_add (nI (6 * j)) 1).toNatClampNeg)]) (rest := []) (a := 0) (ci := 10) (tm := tmO [14, 19, 24, 27, 29, 32, 54, 39, 40, 47]) (H := HL_R1_y80) (H2 := HL_R1_w80) hΦ ⟨c2, t1⟩ rC hh (fun K h => h) rfl rfl rfl (by decide +kernel) (by decide +kernel) (by decide +kernel) (by decide +kernel) (fun τ2 p2 p3 v h1 qv q2 => ?_)
  have pR : decA (τ2 205) 0 = nI c ∧ tdM (decA (τ2 208)) T := by
    rw [p3 205 rfl, p3 208 rfl]
    exact ⟨c3, t2⟩
  refine And.intro (sv (k := 1) hj hL (by omega)) ?_
  refine callX (τ := τ2) (xs := [(xs (f_add (nI (6 * j)) 1).toNatClampNeg)]) (rest := []) (a := 55) (ci := 11) (tm := tmO [58, 59, 60, 61, 65, 66, 67, 68, 69, 70, 71, 72, 73, 74, 75, 76, 77, 78, 79, 80, 81, 82, 83, 84, 85, 86]) (H := HL_R1_w80) (H2 := HL_R1_z0) p2 pR rR q2 (fun K h => h) rfl rfl rfl (by decide +kernel) (by decide +kernel) (by decide +kernel) (by decide +kernel) (fun τ3 p4 p5 w h2 qw q4 => ?_)
  have qv : v = poY (ob (decA (τ 250))) n c T ∧ decA (τ2 206) 0 = nI (poT (ob (decA (τ 250))) n c T) ∧ ∃ F : Nat → Int32, (∀ i, i < 384 → F i = decA (τ 263) i) ∧ ∀ i, i < 384 → decA (τ2 263) i = poW (ob (decA (τ 250))) n c T F i := qv
  have qw : w = poY (ob (fun i => f_and (decA (τ2 251) i) 255)) n c T ∧ tdM (decA (τ3 208)) (poT (ob (fun i => f_and (decA (τ2 251) i) 255)) n c T) ∧ ∃ F : Nat → Int32, (∀ i, i < 384 → F i = decA (τ2 264) i) ∧ ∀ i, i < 384 → decA (τ3 264) i = poW (ob (fun i => f_and (decA (τ2 251) i) 255)) n c T F i := qw
  rw [p3 251 rfl, ← ob_same hz.2.1] at qw
  obtain ⟨F, F1, F2⟩ := qv.2.2
  obtain ⟨G, G1, G2⟩ := qw.2.2
  have hWR : WR τ3 := fun i hi => by
    rw [p5 263 rfl, F2 i hi, G2 i hi]
    exact poW_c (fun j hj => by rw [F1 j hj, G1 j hj, p3 264 rfl]; exact htK.2 j hj) i hi
  have htr : TR τ3 := ⟨⟨poT (ob (decA (τ 250))) n c T, by rw [p5 206 rfl]; exact qv.2.1, qw.2.1⟩, by rw [p5 207 rfl, p3 207 rfl, p5 209 rfl, p3 209 rfl]; exact htK.1, hWR⟩
  have hB : RB τ3 := ⟨(by rw [p5 250 rfl, p3 250 rfl, p5 251 rfl, p3 251 rfl]; exact hz.2.1), (by have h := hz.2.2.1; unfold MR at h ⊢; rw [p5 203 rfl, p3 203 rfl, p5 252 rfl, p3 252 rfl, p5 253 rfl, p3 253 rfl, p5 254 rfl, p3 254 rfl]; exact h), (by have h := hz.2.2.2.1; unfold SR at h ⊢; rw [p5 204 rfl, p3 204 rfl, p5 205 rfl, p3 205 rfl, p5 255 rfl, p3 255 rfl, p5 256 rfl, p3 256 rfl, p5 257 rfl, p3 257 rfl, p5 258 rfl, p3 258 rfl]; exact h), htr⟩
  exact K (upT τ3 202 0) h2 p4 ⟨RR_up 0 (by omega) upT_at hB, Or.inl (Or.inr (mvH (k := 202) (c := 0) rfl (fun t ht => upT_ne ht) (by rw [upT_at]; rfl) (by decide) (by decide +kernel) q4))⟩

set_option maxRecDepth 100000 in
theorem g_law_post_R1_y100 {l : Launch} {Ls : Nat} {xs : Nat → Int32} {c18 : Blk} {τ : Nat → List (Option Nat)} {h : PH} {j : Nat} (hΦ : Φ τ) (hz : RR τ) (hj : 6 * j + 6 ≤ Ls) (hL : Ls ≤ 3072) (hh : all2 (gC ρ0 τ) HL_R1 h) (K : ∀ (τ2 : Nat → List (Option Nat)) (h2 : PH), Φ τ2 → HH τ2 h2 → c18 [some (.inr (some (.inr []))), some (.inr (some (.inl 0))), some (.inr (some (.inl 55))), some (.inl (f_add (nI (6 * j)) 6))] [] h2) (g1 : 1 ≤ (xs (f_add (nI (6 * j)) 1).toNatClampNeg).toInt ∧ (xs (f_add (nI (6 * j)) 1).toNatClampNeg).toInt ≤ 100) (hs : 100 ≤ (decA (τ 202) 0).toInt ∧ (decA (τ 202) 0).toInt ≤ 260) : b_L_law_316 l Ls xs c18 [some (.inr (some (.inr []))), some (.inr (some (.inl 0))), some (.inr (some (.inl 55))), some (.inl (nI (6 * j)))] [] h := by
  have hh := fyH (k := 202) (c := 100) (d := 260) (E := HL_R1_y100) rfl hs.1 hs.2 (by decide +kernel) hh
  obtain ⟨n, n_, e1⟩ := rng_n (x := (xs (f_add (nI (6 * j)) 1).toNatClampNeg)) (k := 120) (by omega) (by omega)
  have s1 : (nI n).toInt = _ := nI_toInt (by omega)
  have g1 := g1
  rw [e1] at g1
  obtain ⟨c, c1, c2, c3, _⟩ := hz.2.2.2.1
  obtain ⟨⟨T, t1, t2⟩, htK⟩ := hz.2.2.2.2
  have rC := x_post100C (l := l) (n := n) (c := c) (T := T) ⟨by omega, by omega⟩ c1
  rw [← e1] at rC
  have rR := x_post100R (l := l) (n := n) (c := c) (T := T) ⟨by omega, by omega⟩ c1
  rw [← e1] at rR
  refine And.intro (sv (k := 1) hj hL (by omega)) ?_
  refine callX (τ := τ) (xs := [(xs (f_add (nI (6 * j)) 1).toNatClampNeg)]) (rest := []) (a := 0) (ci := 10) (tm := tmO [14, 19, 24, 27, 29, 32, 54, 39, 40, 47]) (H := HL_R1_y100) (H2 := HL_R1_w100) hΦ ⟨c2, t1⟩ rC hh (fun K h => h) rfl rfl rfl (by decide +kernel) (by decide +kernel) (by decide +kernel) (by decide +kernel) (fun τ2 p2 p3 v h1 qv q2 => ?_)
  have pR : decA (τ2 205) 0 = nI c ∧ tdM (decA (τ2 208)) T := by
    rw [p3 205 rfl, p3 208 rfl]
    exact ⟨c3, t2⟩
  refine And.intro (sv (k := 1) hj hL (by omega)) ?_
  refine callX (τ := τ2) (xs := [(xs (f_add (nI (6 * j)) 1).toNatClampNeg)]) (rest := []) (a := 55) (ci := 11) (tm := tmO [58, 59, 60, 61, 65, 66, 67, 68, 69, 70, 71, 72, 73, 74, 75, 76, 77, 78, 79, 80, 81, 82, 83, 84, 85, 86]) (H := HL_R1_w100) (H2 := HL_R1_z0) p2 pR rR q2 (fun K h => h) rfl rfl rfl (by decide +kernel) (by decide +kernel) (by decide +kernel) (by decide +kernel) (fun τ3 p4 p5 w h2 qw q4 => ?_)
  have qv : v = poY (ob (decA (τ 250))) n c T ∧ decA (τ2 206) 0 = nI (poT (ob (decA (τ 250))) n c T) ∧ ∃ F : Nat → Int32, (∀ i, i < 384 → F i = decA (τ 263) i) ∧ ∀ i, i < 384 → decA (τ2 263) i = poW (ob (decA (τ 250))) n c T F i := qv
  have qw : w = poY (ob (fun i => f_and (decA (τ2 251) i) 255)) n c T ∧ tdM (decA (τ3 208)) (poT (ob (fun i => f_and (decA (τ2 251) i) 255)) n c T) ∧ ∃ F : Nat → Int32, (∀ i, i < 384 → F i = decA (τ2 264) i) ∧ ∀ i, i < 384 → decA (τ3 264) i = poW (ob (fun i => f_and (decA (τ2 251) i) 255)) n c T F i := qw
  rw [p3 251 rfl, ← ob_same hz.2.1] at qw
  obtain ⟨F, F1, F2⟩ := qv.2.2
  obtain ⟨G, G1, G2⟩ := qw.2.2
  have hWR : WR τ3 := fun i hi => by
    rw [p5 263 rfl, F2 i hi, G2 i hi]
    exact poW_c (fun j hj => by rw [F1 j hj, G1 j hj, p3 264 rfl]; exact htK.2 j hj) i hi
  have htr : TR τ3 := ⟨⟨poT (ob (decA (τ 250))) n c T, by rw [p5 206 rfl]; exact qv.2.1, qw.2.1⟩, by rw [p5 207 rfl, p3 207 rfl, p5 209 rfl, p3 209 rfl]; exact htK.1, hWR⟩
  have hB : RB τ3 := ⟨(by rw [p5 250 rfl, p3 250 rfl, p5 251 rfl, p3 251 rfl]; exact hz.2.1), (by have h := hz.2.2.1; unfold MR at h ⊢; rw [p5 203 rfl, p3 203 rfl, p5 252 rfl, p3 252 rfl, p5 253 rfl, p3 253 rfl, p5 254 rfl, p3 254 rfl]; exact h), (by have h := hz.2.2.2.1; unfold SR at h ⊢; rw [p5 204 rfl, p3 204 rfl, p5 205 rfl, p3 205 rfl, p5 255 rfl, p3 255 rfl, p5 256 rfl, p3 256 rfl, p5 257 rfl, p3 257 rfl, p5 258 rfl, p3 258 rfl]; exact h), htr⟩
  exact K (upT τ3 202 0) h2 p4 ⟨RR_up 0 (by omega) upT_at hB, Or.inl (Or.inr (mvH (k := 202) (c := 0) rfl (fun t ht => upT_ne ht) (by rw [upT_at]; rfl) (by decide) (by decide +kernel) q4))⟩

set_option maxRecDepth 100000 in
theorem g_law_post_R1_y120 {l : Launch} {Ls : Nat} {xs : Nat → Int32} {c18 : Blk} {τ : Nat → List (Option Nat)} {h : PH} {j : Nat} (hΦ : Φ τ) (hz : RR τ) (hj : 6 * j + 6 ≤ Ls) (hL : Ls ≤ 3072) (hh : all2 (gC ρ0 τ) HL_R1 h) (K : ∀ (τ2 : Nat → List (Option Nat)) (h2 : PH), Φ τ2 → HH τ2 h2 → c18 [some (.inr (some (.inr []))), some (.inr (some (.inl 0))), some (.inr (some (.inl 55))), some (.inl (f_add (nI (6 * j)) 6))] [] h2) (g1 : 1 ≤ (xs (f_add (nI (6 * j)) 1).toNatClampNeg).toInt ∧ (xs (f_add (nI (6 * j)) 1).toNatClampNeg).toInt ≤ 120) (hs : 120 ≤ (decA (τ 202) 0).toInt ∧ (decA (τ 202) 0).toInt ≤ 260) : b_L_law_316 l Ls xs c18 [some (.inr (some (.inr []))), some (.inr (some (.inl 0))), some (.inr (some (.inl 55))), some (.inl (nI (6 * j)))] [] h := by
  have hh := fyH (k := 202) (c := 120) (d := 260) (E := HL_R1_y120) rfl hs.1 hs.2 (by decide +kernel) hh
  obtain ⟨n, n_, e1⟩ := rng_n (x := (xs (f_add (nI (6 * j)) 1).toNatClampNeg)) (k := 120) (by omega) (by omega)
  have s1 : (nI n).toInt = _ := nI_toInt (by omega)
  have g1 := g1
  rw [e1] at g1
  obtain ⟨c, c1, c2, c3, _⟩ := hz.2.2.2.1
  obtain ⟨⟨T, t1, t2⟩, htK⟩ := hz.2.2.2.2
  have rC := x_post120C (l := l) (n := n) (c := c) (T := T) ⟨by omega, by omega⟩ c1
  rw [← e1] at rC
  have rR := x_post120R (l := l) (n := n) (c := c) (T := T) ⟨by omega, by omega⟩ c1
  rw [← e1] at rR
  refine And.intro (sv (k := 1) hj hL (by omega)) ?_
  refine callX (τ := τ) (xs := [(xs (f_add (nI (6 * j)) 1).toNatClampNeg)]) (rest := []) (a := 0) (ci := 10) (tm := tmO [14, 19, 24, 27, 29, 32, 54, 39, 40, 47]) (H := HL_R1_y120) (H2 := HL_R1_w120) hΦ ⟨c2, t1⟩ rC hh (fun K h => h) rfl rfl rfl (by decide +kernel) (by decide +kernel) (by decide +kernel) (by decide +kernel) (fun τ2 p2 p3 v h1 qv q2 => ?_)
  have pR : decA (τ2 205) 0 = nI c ∧ tdM (decA (τ2 208)) T := by
    rw [p3 205 rfl, p3 208 rfl]
    exact ⟨c3, t2⟩
  refine And.intro (sv (k := 1) hj hL (by omega)) ?_
  refine callX (τ := τ2) (xs := [(xs (f_add (nI (6 * j)) 1).toNatClampNeg)]) (rest := []) (a := 55) (ci := 11) (tm := tmO [58, 59, 60, 61, 65, 66, 67, 68, 69, 70, 71, 72, 73, 74, 75, 76, 77, 78, 79, 80, 81, 82, 83, 84, 85, 86]) (H := HL_R1_w120) (H2 := HL_R1_z0) p2 pR rR q2 (fun K h => h) rfl rfl rfl (by decide +kernel) (by decide +kernel) (by decide +kernel) (by decide +kernel) (fun τ3 p4 p5 w h2 qw q4 => ?_)
  have qv : v = poY (ob (decA (τ 250))) n c T ∧ decA (τ2 206) 0 = nI (poT (ob (decA (τ 250))) n c T) ∧ ∃ F : Nat → Int32, (∀ i, i < 384 → F i = decA (τ 263) i) ∧ ∀ i, i < 384 → decA (τ2 263) i = poW (ob (decA (τ 250))) n c T F i := qv
  have qw : w = poY (ob (fun i => f_and (decA (τ2 251) i) 255)) n c T ∧ tdM (decA (τ3 208)) (poT (ob (fun i => f_and (decA (τ2 251) i) 255)) n c T) ∧ ∃ F : Nat → Int32, (∀ i, i < 384 → F i = decA (τ2 264) i) ∧ ∀ i, i < 384 → decA (τ3 264) i = poW (ob (fun i => f_and (decA (τ2 251) i) 255)) n c T F i := qw
  rw [p3 251 rfl, ← ob_same hz.2.1] at qw
  obtain ⟨F, F1, F2⟩ := qv.2.2
  obtain ⟨G, G1, G2⟩ := qw.2.2
  have hWR : WR τ3 := fun i hi => by
    rw [p5 263 rfl, F2 i hi, G2 i hi]
    exact poW_c (fun j hj => by rw [F1 j hj, G1 j hj, p3 264 rfl]; exact htK.2 j hj) i hi
  have htr : TR τ3 := ⟨⟨poT (ob (decA (τ 250))) n c T, by rw [p5 206 rfl]; exact qv.2.1, qw.2.1⟩, by rw [p5 207 rfl, p3 207 rfl, p5 209 rfl, p3 209 rfl]; exact htK.1, hWR⟩
  have hB : RB τ3 := ⟨(by rw [p5 250 rfl, p3 250 rfl, p5 251 rfl, p3 251 rfl]; exact hz.2.1), (by have h := hz.2.2.1; unfold MR at h ⊢; rw [p5 203 rfl, p3 203 rfl, p5 252 rfl, p3 252 rfl, p5 253 rfl, p3 253 rfl, p5 254 rfl, p3 254 rfl]; exact h), (by have h := hz.2.2.2.1; unfold SR at h ⊢; rw [p5 204 rfl, p3 204 rfl, p5 205 rfl, p3 205 rfl, p5 255 rfl, p3 255 rfl, p5 256 rfl, p3 256 rfl, p5 257 rfl, p3 257 rfl, p5 258 rfl, p3 258 rfl]; exact h), htr⟩
  exact K (upT τ3 202 0) h2 p4 ⟨RR_up 0 (by omega) upT_at hB, Or.inl (Or.inr (mvH (k := 202) (c := 0) rfl (fun t ht => upT_ne ht) (by rw [upT_at]; rfl) (by decide) (by decide +kernel) q4))⟩

set_option maxRecDepth 100000 in
theorem g_law_post_R1_n {l : Launch} {Ls : Nat} {xs : Nat → Int32} {c18 : Blk} {τ : Nat → List (Option Nat)} {h : PH} {j : Nat} (hΦ : Φ τ) (hz : RR τ) (hj : 6 * j + 6 ≤ Ls) (hL : Ls ≤ 3072) (hh : all2 (gC ρ0 τ) HL_R1 h) (K : ∀ (τ2 : Nat → List (Option Nat)) (h2 : PH), Φ τ2 → HH τ2 h2 → c18 [some (.inr (some (.inr []))), some (.inr (some (.inl 0))), some (.inr (some (.inl 55))), some (.inl (f_add (nI (6 * j)) 6))] [] h2) (hN : ¬ nd_post (xs (f_add (nI (6 * j)) 1).toNatClampNeg) (decA (τ 202) 0)) : b_L_law_316 l Ls xs c18 [some (.inr (some (.inr []))), some (.inr (some (.inl 0))), some (.inr (some (.inl 55))), some (.inl (nI (6 * j)))] [] h := by
  refine And.intro (sv (k := 1) hj hL (by omega)) ?_
  refine callSame (τ := τ) (xs := [(xs (f_add (nI (6 * j)) 1).toNatClampNeg)]) (v := -1) (rest := []) (a := 0) (ci := 10) (tm := tmO [14, 19, 24, 27, 29, 32, 54, 39, 40, 47]) (H := HL_R1) hΦ hN i_npostC hh (fun K h => h) rfl rfl rfl (by decide +kernel) ?_
  refine And.intro (sv (k := 1) hj hL (by omega)) ?_
  refine callSame (τ := τ) (xs := [(xs (f_add (nI (6 * j)) 1).toNatClampNeg)]) (v := -1) (rest := []) (a := 55) (ci := 11) (tm := tmO [58, 59, 60, 61, 65, 66, 67, 68, 69, 70, 71, 72, 73, 74, 75, 76, 77, 78, 79, 80, 81, 82, 83, 84, 85, 86]) (H := HL_R1) hΦ hN i_npostR hh (fun K h => h) rfl rfl rfl (by decide +kernel) ?_
  exact K τ h hΦ ⟨hz, Or.inl (Or.inr hh)⟩

theorem g_law_post_R1 {l : Launch} {Ls : Nat} {xs : Nat → Int32} {c18 : Blk} {τ : Nat → List (Option Nat)} {h : PH} {j : Nat} (hΦ : Φ τ) (hz : RR τ) (hj : 6 * j + 6 ≤ Ls) (hL : Ls ≤ 3072) (hh : all2 (gC ρ0 τ) HL_R1 h) (K : ∀ (τ2 : Nat → List (Option Nat)) (h2 : PH), Φ τ2 → HH τ2 h2 → c18 [some (.inr (some (.inr []))), some (.inr (some (.inl 0))), some (.inr (some (.inl 55))), some (.inl (f_add (nI (6 * j)) 6))] [] h2) : b_L_law_316 l Ls xs c18 [some (.inr (some (.inr []))), some (.inr (some (.inl 0))), some (.inr (some (.inl 55))), some (.inl (nI (6 * j)))] [] h := by
  by_cases hN : nd_post (xs (f_add (nI (6 * j)) 1).toNatClampNeg) (decA (τ 202) 0)
  rotate_left
  · exact g_law_post_R1_n hΦ hz hj hL hh K hN
  obtain ⟨q, hq, hs⟩ := hz.1
  have p1 : (1 : Int) ≤ (xs (f_add (nI (6 * j)) 1).toNatClampNeg).toInt ∧ (xs (f_add (nI (6 * j)) 1).toNatClampNeg).toInt ≤ 120 := ⟨ge32 hN.1.1, ge32 hN.1.2⟩
  have ps : (xs (f_add (nI (6 * j)) 1).toNatClampNeg).toInt ≤ (decA (τ 202) 0).toInt := ge32 hN.2
  by_cases c_20 : (xs (f_add (nI (6 * j)) 1).toNatClampNeg).toInt ≤ 20
  · exact g_law_post_R1_y20 hΦ hz hj hL hh K ⟨by omega, by omega⟩ ⟨by omega, by omega⟩
  by_cases c_40 : (xs (f_add (nI (6 * j)) 1).toNatClampNeg).toInt ≤ 40
  · exact g_law_post_R1_y40 hΦ hz hj hL hh K ⟨by omega, by omega⟩ ⟨by omega, by omega⟩
  by_cases c_60 : (xs (f_add (nI (6 * j)) 1).toNatClampNeg).toInt ≤ 60
  · exact g_law_post_R1_y60 hΦ hz hj hL hh K ⟨by omega, by omega⟩ ⟨by omega, by omega⟩
  by_cases c_80 : (xs (f_add (nI (6 * j)) 1).toNatClampNeg).toInt ≤ 80
  · exact g_law_post_R1_y80 hΦ hz hj hL hh K ⟨by omega, by omega⟩ ⟨by omega, by omega⟩
  by_cases c_100 : (xs (f_add (nI (6 * j)) 1).toNatClampNeg).toInt ≤ 100
  · exact g_law_post_R1_y100 hΦ hz hj hL hh K ⟨by omega, by omega⟩ ⟨by omega, by omega⟩
  exact g_law_post_R1_y120 hΦ hz hj hL hh K ⟨by omega, by omega⟩ ⟨by omega, by omega⟩

set_option maxRecDepth 100000 in
theorem g_law_days_R1 {l : Launch} {Ls : Nat} {xs : Nat → Int32} {c18 : Blk} {τ : Nat → List (Option Nat)} {h : PH} {j : Nat} (hΦ : Φ τ) (hz : RR τ) (hj : 6 * j + 6 ≤ Ls) (hL : Ls ≤ 3072) (hh : all2 (gC ρ0 τ) HL_R1 h) (K : ∀ (τ2 : Nat → List (Option Nat)) (h2 : PH), Φ τ2 → HH τ2 h2 → c18 [some (.inr (some (.inr []))), some (.inr (some (.inl 0))), some (.inr (some (.inl 55))), some (.inl (f_add (nI (6 * j)) 6))] [] h2) : b_L_law_339 l Ls xs c18 [some (.inr (some (.inr []))), some (.inr (some (.inl 0))), some (.inr (some (.inl 55))), some (.inl (nI (6 * j)))] [] h := by
  refine And.intro (sv (k := 1) hj hL (by omega)) ?_
  refine callT (τ := τ) (tm := tmO [1, 14, 19, 27, 29, 32, 35, 54, 39, 47]) (A := [.inl (-2147483648, 2147483647), .inr (.inr (some (.inl 0)))]) (H := HL_R1) (Ts := [([.inl (-2147483648, 2147483647)], HL_R1)]) hΦ s_X11_days ⟨topA_ok _, rfl, trivial⟩ hh (by decide +kernel) (fun T hT st h1 q1 q2 => ?_)
  cases List.mem_singleton.mp hT
  obtain ⟨v, rfl, _⟩ := st1 q1
  refine And.intro (sv (k := 1) hj hL (by omega)) ?_
  refine callT (τ := τ) (tm := tmO [57, 58, 63, 64, 65, 66, 67, 68, 69, 70, 78, 79, 80, 81, 83, 84, 85, 86]) (A := [.inl (-2147483648, 2147483647), .inr (.inr (some (.inl 55)))]) (H := HL_R1) (Ts := [([.inl (-2147483648, 2147483647)], HL_R1)]) hΦ s_X12_days ⟨topA_ok _, rfl, trivial⟩ q2 (by decide +kernel) (fun T hT st h2 q3 q4 => ?_)
  cases List.mem_singleton.mp hT
  obtain ⟨w, rfl, _⟩ := st1 q3
  exact K τ h2 hΦ ⟨hz, Or.inl (Or.inr q4)⟩

set_option maxRecDepth 100000 in
theorem g_law_tried_R1 {l : Launch} {Ls : Nat} {xs : Nat → Int32} {c18 : Blk} {τ : Nat → List (Option Nat)} {h : PH} {j : Nat} (hΦ : Φ τ) (hz : RR τ) (hj : 6 * j + 6 ≤ Ls) (hL : Ls ≤ 3072) (hh : all2 (gC ρ0 τ) HL_R1 h) (K : ∀ (τ2 : Nat → List (Option Nat)) (h2 : PH), Φ τ2 → HH τ2 h2 → c18 [some (.inr (some (.inr []))), some (.inr (some (.inl 0))), some (.inr (some (.inl 55))), some (.inl (f_add (nI (6 * j)) 6))] [] h2) : b_L_law_362 l Ls xs c18 [some (.inr (some (.inr []))), some (.inr (some (.inl 0))), some (.inr (some (.inl 55))), some (.inl (nI (6 * j)))] [] h := by
  refine And.intro (sv (k := 1) hj hL (by omega)) ?_
  refine And.intro (sv (k := 2) hj hL (by omega)) ?_
  refine callT (τ := τ) (tm := tmO [1, 14, 27, 29, 32, 35, 54, 39, 47]) (A := [.inl (-2147483648, 2147483647), .inl (-2147483648, 2147483647), .inr (.inr (some (.inl 0)))]) (H := HL_R1) (Ts := [([.inl (-2147483648, 2147483647)], HL_R1)]) hΦ s_X11_tried ⟨topA_ok _, topA_ok _, rfl, trivial⟩ hh (by decide +kernel) (fun T hT st h1 q1 q2 => ?_)
  cases List.mem_singleton.mp hT
  obtain ⟨v, rfl, _⟩ := st1 q1
  refine And.intro (sv (k := 1) hj hL (by omega)) ?_
  refine And.intro (sv (k := 2) hj hL (by omega)) ?_
  refine callT (τ := τ) (tm := tmO [58, 63, 64, 65, 66, 67, 68, 69, 70, 78, 79, 80, 81, 83, 84, 85, 86]) (A := [.inl (-2147483648, 2147483647), .inl (-2147483648, 2147483647), .inr (.inr (some (.inl 55)))]) (H := HL_R1) (Ts := [([.inl (-2147483648, 2147483647)], HL_R1)]) hΦ s_X12_tried ⟨topA_ok _, topA_ok _, rfl, trivial⟩ q2 (by decide +kernel) (fun T hT st h2 q3 q4 => ?_)
  cases List.mem_singleton.mp hT
  obtain ⟨w, rfl, _⟩ := st1 q3
  exact K τ h2 hΦ ⟨hz, Or.inl (Or.inr q4)⟩

set_option maxRecDepth 100000 in
theorem g_law_letterIs_R1 {l : Launch} {Ls : Nat} {xs : Nat → Int32} {c18 : Blk} {τ : Nat → List (Option Nat)} {h : PH} {j : Nat} (hΦ : Φ τ) (hz : RR τ) (hj : 6 * j + 6 ≤ Ls) (hL : Ls ≤ 3072) (hh : all2 (gC ρ0 τ) HL_R1 h) (K : ∀ (τ2 : Nat → List (Option Nat)) (h2 : PH), Φ τ2 → HH τ2 h2 → c18 [some (.inr (some (.inr []))), some (.inr (some (.inl 0))), some (.inr (some (.inl 55))), some (.inl (f_add (nI (6 * j)) 6))] [] h2) : b_L_law_395 l Ls xs c18 [some (.inr (some (.inr []))), some (.inr (some (.inl 0))), some (.inr (some (.inl 55))), some (.inl (nI (6 * j)))] [] h := by
  refine And.intro (sv (k := 1) hj hL (by omega)) ?_
  refine And.intro (sv (k := 2) hj hL (by omega)) ?_
  refine callT (τ := τ) (tm := tmO [1, 14, 19, 24, 27, 29, 32, 35, 54, 39, 40, 47]) (A := [.inl (-2147483648, 2147483647), .inl (-2147483648, 2147483647), .inr (.inr (some (.inl 0)))]) (H := HL_R1) (Ts := [([.inl (-2147483648, 2147483647)], HL_R1)]) hΦ s_X11_letterIs ⟨topA_ok _, topA_ok _, rfl, trivial⟩ hh (by decide +kernel) (fun T hT st h1 q1 q2 => ?_)
  cases List.mem_singleton.mp hT
  obtain ⟨v, rfl, _⟩ := st1 q1
  refine And.intro (sv (k := 1) hj hL (by omega)) ?_
  refine And.intro (sv (k := 2) hj hL (by omega)) ?_
  refine callT (τ := τ) (tm := tmO [57, 58, 62, 63, 64, 65, 66, 67, 68, 69, 70, 71, 72, 73, 74, 75, 76, 77, 78, 79, 80, 81, 82, 83, 84, 85, 86]) (A := [.inl (-2147483648, 2147483647), .inl (-2147483648, 2147483647), .inr (.inr (some (.inl 55)))]) (H := HL_R1) (Ts := [([.inl (-2147483648, 2147483647)], HL_R1)]) hΦ s_X12_letterIs ⟨topA_ok _, topA_ok _, rfl, trivial⟩ q2 (by decide +kernel) (fun T hT st h2 q3 q4 => ?_)
  cases List.mem_singleton.mp hT
  obtain ⟨w, rfl, _⟩ := st1 q3
  exact K τ h2 hΦ ⟨hz, Or.inl (Or.inr q4)⟩

set_option maxRecDepth 100000 in
theorem g_law_stampIs_R1 {l : Launch} {Ls : Nat} {xs : Nat → Int32} {c18 : Blk} {τ : Nat → List (Option Nat)} {h : PH} {j : Nat} (hΦ : Φ τ) (hz : RR τ) (hj : 6 * j + 6 ≤ Ls) (hL : Ls ≤ 3072) (hh : all2 (gC ρ0 τ) HL_R1 h) (K : ∀ (τ2 : Nat → List (Option Nat)) (h2 : PH), Φ τ2 → HH τ2 h2 → c18 [some (.inr (some (.inr []))), some (.inr (some (.inl 0))), some (.inr (some (.inl 55))), some (.inl (f_add (nI (6 * j)) 6))] [] h2) : b_L_law_428 l Ls xs c18 [some (.inr (some (.inr []))), some (.inr (some (.inl 0))), some (.inr (some (.inl 55))), some (.inl (nI (6 * j)))] [] h := by
  refine And.intro (sv (k := 1) hj hL (by omega)) ?_
  refine And.intro (sv (k := 2) hj hL (by omega)) ?_
  refine callT (τ := τ) (tm := tmO [1, 14, 19, 24, 27, 29, 32, 35, 54, 39, 40, 47]) (A := [.inl (-2147483648, 2147483647), .inl (-2147483648, 2147483647), .inr (.inr (some (.inl 0)))]) (H := HL_R1) (Ts := [([.inl (-2147483648, 2147483647)], HL_R1)]) hΦ s_X11_stampIs ⟨topA_ok _, topA_ok _, rfl, trivial⟩ hh (by decide +kernel) (fun T hT st h1 q1 q2 => ?_)
  cases List.mem_singleton.mp hT
  obtain ⟨v, rfl, _⟩ := st1 q1
  refine And.intro (sv (k := 1) hj hL (by omega)) ?_
  refine And.intro (sv (k := 2) hj hL (by omega)) ?_
  refine callT (τ := τ) (tm := tmO [57, 58, 59, 62, 63, 64, 65, 66, 67, 68, 69, 70, 71, 72, 73, 74, 75, 76, 77, 78, 79, 80, 81, 82, 83, 84, 85, 86]) (A := [.inl (-2147483648, 2147483647), .inl (-2147483648, 2147483647), .inr (.inr (some (.inl 55)))]) (H := HL_R1) (Ts := [([.inl (-2147483648, 2147483647)], HL_R1)]) hΦ s_X12_stampIs ⟨topA_ok _, topA_ok _, rfl, trivial⟩ q2 (by decide +kernel) (fun T hT st h2 q3 q4 => ?_)
  cases List.mem_singleton.mp hT
  obtain ⟨w, rfl, _⟩ := st1 q3
  exact K τ h2 hΦ ⟨hz, Or.inl (Or.inr q4)⟩

set_option maxRecDepth 100000 in
theorem g_law_comes_R1 {l : Launch} {Ls : Nat} {xs : Nat → Int32} {c18 : Blk} {τ : Nat → List (Option Nat)} {h : PH} {j : Nat} (hΦ : Φ τ) (hz : RR τ) (hj : 6 * j + 6 ≤ Ls) (hL : Ls ≤ 3072) (hh : all2 (gC ρ0 τ) HL_R1 h) (K : ∀ (τ2 : Nat → List (Option Nat)) (h2 : PH), Φ τ2 → HH τ2 h2 → c18 [some (.inr (some (.inr []))), some (.inr (some (.inl 0))), some (.inr (some (.inl 55))), some (.inl (f_add (nI (6 * j)) 6))] [] h2) : b_L_law_461 l Ls xs c18 [some (.inr (some (.inr []))), some (.inr (some (.inl 0))), some (.inr (some (.inl 55))), some (.inl (nI (6 * j)))] [] h := by
  refine And.intro (sv (k := 1) hj hL (by omega)) ?_
  refine And.intro (sv (k := 2) hj hL (by omega)) ?_
  refine And.intro (sv (k := 3) hj hL (by omega)) ?_
  refine callT (τ := τ) (tm := tmO [1, 14, 27, 29, 32, 35, 54, 39, 47]) (A := [.inl (-2147483648, 2147483647), .inl (-2147483648, 2147483647), .inl (-2147483648, 2147483647), .inr (.inr (some (.inl 0)))]) (H := HL_R1) (Ts := [([.inl (-2147483648, 2147483647)], HL_R1)]) hΦ s_X11_comes ⟨topA_ok _, topA_ok _, topA_ok _, rfl, trivial⟩ hh (by decide +kernel) (fun T hT st h1 q1 q2 => ?_)
  cases List.mem_singleton.mp hT
  obtain ⟨v, rfl, _⟩ := st1 q1
  refine And.intro (sv (k := 1) hj hL (by omega)) ?_
  refine And.intro (sv (k := 2) hj hL (by omega)) ?_
  refine And.intro (sv (k := 3) hj hL (by omega)) ?_
  refine callT (τ := τ) (tm := tmO [58, 63, 64, 65, 66, 67, 68, 69, 70, 78, 79, 80, 81, 83, 84, 85, 86]) (A := [.inl (-2147483648, 2147483647), .inl (-2147483648, 2147483647), .inl (-2147483648, 2147483647), .inr (.inr (some (.inl 55)))]) (H := HL_R1) (Ts := [([.inl (-2147483648, 2147483647)], HL_R1)]) hΦ s_X12_comes ⟨topA_ok _, topA_ok _, topA_ok _, rfl, trivial⟩ q2 (by decide +kernel) (fun T hT st h2 q3 q4 => ?_)
  cases List.mem_singleton.mp hT
  obtain ⟨w, rfl, _⟩ := st1 q3
  exact K τ h2 hΦ ⟨hz, Or.inl (Or.inr q4)⟩

set_option maxRecDepth 100000 in
theorem g_law_atRest_R1 {l : Launch} {Ls : Nat} {xs : Nat → Int32} {c18 : Blk} {τ : Nat → List (Option Nat)} {h : PH} {j : Nat} (hΦ : Φ τ) (hz : RR τ) (hj : 6 * j + 6 ≤ Ls) (hL : Ls ≤ 3072) (hh : all2 (gC ρ0 τ) HL_R1 h) (K : ∀ (τ2 : Nat → List (Option Nat)) (h2 : PH), Φ τ2 → HH τ2 h2 → c18 [some (.inr (some (.inr []))), some (.inr (some (.inl 0))), some (.inr (some (.inl 55))), some (.inl (f_add (nI (6 * j)) 6))] [] h2) : b_L_law_504 l Ls xs c18 [some (.inr (some (.inr []))), some (.inr (some (.inl 0))), some (.inr (some (.inl 55))), some (.inl (nI (6 * j)))] [] h := by
  refine And.intro (sv (k := 1) hj hL (by omega)) ?_
  refine And.intro (sv (k := 2) hj hL (by omega)) ?_
  refine callT (τ := τ) (tm := tmO [1, 14, 27, 29, 32, 35, 54, 39, 47]) (A := [.inl (-2147483648, 2147483647), .inl (-2147483648, 2147483647), .inr (.inr (some (.inl 0)))]) (H := HL_R1) (Ts := [([.inl (-2147483648, 2147483647)], HL_R1)]) hΦ s_X11_atRest ⟨topA_ok _, topA_ok _, rfl, trivial⟩ hh (by decide +kernel) (fun T hT st h1 q1 q2 => ?_)
  cases List.mem_singleton.mp hT
  obtain ⟨v, rfl, _⟩ := st1 q1
  refine And.intro (sv (k := 1) hj hL (by omega)) ?_
  refine And.intro (sv (k := 2) hj hL (by omega)) ?_
  refine callT (τ := τ) (tm := tmO [58, 63, 64, 65, 66, 67, 68, 69, 70, 78, 79, 80, 81, 83, 84, 85, 86]) (A := [.inl (-2147483648, 2147483647), .inl (-2147483648, 2147483647), .inr (.inr (some (.inl 55)))]) (H := HL_R1) (Ts := [([.inl (-2147483648, 2147483647)], HL_R1)]) hΦ s_X12_atRest ⟨topA_ok _, topA_ok _, rfl, trivial⟩ q2 (by decide +kernel) (fun T hT st h2 q3 q4 => ?_)
  cases List.mem_singleton.mp hT
  obtain ⟨w, rfl, _⟩ := st1 q3
  exact K τ h2 hΦ ⟨hz, Or.inl (Or.inr q4)⟩

set_option maxRecDepth 100000 in
theorem g_law_meet_R1 {l : Launch} {Ls : Nat} {xs : Nat → Int32} {c18 : Blk} {τ : Nat → List (Option Nat)} {h : PH} {j : Nat} (hΦ : Φ τ) (hz : RR τ) (hj : 6 * j + 6 ≤ Ls) (hL : Ls ≤ 3072) (hh : all2 (gC ρ0 τ) HL_R1 h) (K : ∀ (τ2 : Nat → List (Option Nat)) (h2 : PH), Φ τ2 → HH τ2 h2 → c18 [some (.inr (some (.inr []))), some (.inr (some (.inl 0))), some (.inr (some (.inl 55))), some (.inl (f_add (nI (6 * j)) 6))] [] h2) : b_L_law_537 l Ls xs c18 [some (.inr (some (.inr []))), some (.inr (some (.inl 0))), some (.inr (some (.inl 55))), some (.inl (nI (6 * j)))] [] h := by
  refine And.intro (sv (k := 1) hj hL (by omega)) ?_
  refine And.intro (sv (k := 2) hj hL (by omega)) ?_
  refine And.intro (sv (k := 3) hj hL (by omega)) ?_
  refine callT (τ := τ) (tm := tmO [1, 14, 27, 29, 32, 35, 54, 39, 47]) (A := [.inl (-2147483648, 2147483647), .inl (-2147483648, 2147483647), .inl (-2147483648, 2147483647), .inr (.inr (some (.inl 0)))]) (H := HL_R1) (Ts := [([.inl (-2147483648, 2147483647)], HL_R1)]) hΦ s_X11_meet ⟨topA_ok _, topA_ok _, topA_ok _, rfl, trivial⟩ hh (by decide +kernel) (fun T hT st h1 q1 q2 => ?_)
  cases List.mem_singleton.mp hT
  obtain ⟨v, rfl, _⟩ := st1 q1
  refine And.intro (sv (k := 1) hj hL (by omega)) ?_
  refine And.intro (sv (k := 2) hj hL (by omega)) ?_
  refine And.intro (sv (k := 3) hj hL (by omega)) ?_
  refine callT (τ := τ) (tm := tmO [58, 63, 64, 65, 66, 67, 68, 69, 70, 78, 79, 80, 81, 83, 84, 85, 86]) (A := [.inl (-2147483648, 2147483647), .inl (-2147483648, 2147483647), .inl (-2147483648, 2147483647), .inr (.inr (some (.inl 55)))]) (H := HL_R1) (Ts := [([.inl (-2147483648, 2147483647)], HL_R1)]) hΦ s_X12_meet ⟨topA_ok _, topA_ok _, topA_ok _, rfl, trivial⟩ q2 (by decide +kernel) (fun T hT st h2 q3 q4 => ?_)
  cases List.mem_singleton.mp hT
  obtain ⟨w, rfl, _⟩ := st1 q3
  exact K τ h2 hΦ ⟨hz, Or.inl (Or.inr q4)⟩

set_option maxRecDepth 100000 in
theorem g_law_again_R1 {l : Launch} {Ls : Nat} {xs : Nat → Int32} {c18 : Blk} {τ : Nat → List (Option Nat)} {h : PH} {j : Nat} (hΦ : Φ τ) (hz : RR τ) (hj : 6 * j + 6 ≤ Ls) (hL : Ls ≤ 3072) (hh : all2 (gC ρ0 τ) HL_R1 h) (K : ∀ (τ2 : Nat → List (Option Nat)) (h2 : PH), Φ τ2 → HH τ2 h2 → c18 [some (.inr (some (.inr []))), some (.inr (some (.inl 0))), some (.inr (some (.inl 55))), some (.inl (f_add (nI (6 * j)) 6))] [] h2) : b_L_law_580 l Ls xs c18 [some (.inr (some (.inr []))), some (.inr (some (.inl 0))), some (.inr (some (.inl 55))), some (.inl (nI (6 * j)))] [] h := by
  refine And.intro (sv (k := 1) hj hL (by omega)) ?_
  refine And.intro (sv (k := 2) hj hL (by omega)) ?_
  refine callT (τ := τ) (tm := tmO [1, 14, 27, 29, 32, 35, 54, 47]) (A := [.inl (-2147483648, 2147483647), .inl (-2147483648, 2147483647), .inr (.inr (some (.inl 0)))]) (H := HL_R1) (Ts := [([.inl (-2147483648, 2147483647)], HL_R1)]) hΦ s_X11_again ⟨topA_ok _, topA_ok _, rfl, trivial⟩ hh (by decide +kernel) (fun T hT st h1 q1 q2 => ?_)
  cases List.mem_singleton.mp hT
  obtain ⟨v, rfl, _⟩ := st1 q1
  refine And.intro (sv (k := 1) hj hL (by omega)) ?_
  refine And.intro (sv (k := 2) hj hL (by omega)) ?_
  refine callT (τ := τ) (tm := tmO [58, 63, 64, 65, 66, 67, 68, 69, 70, 78, 79, 80, 81, 84, 85, 86]) (A := [.inl (-2147483648, 2147483647), .inl (-2147483648, 2147483647), .inr (.inr (some (.inl 55)))]) (H := HL_R1) (Ts := [([.inl (-2147483648, 2147483647)], HL_R1)]) hΦ s_X12_again ⟨topA_ok _, topA_ok _, rfl, trivial⟩ q2 (by decide +kernel) (fun T hT st h2 q3 q4 => ?_)
  cases List.mem_singleton.mp hT
  obtain ⟨w, rfl, _⟩ := st1 q3
  exact K τ h2 hΦ ⟨hz, Or.inl (Or.inr q4)⟩

set_option maxRecDepth 100000 in
theorem g_law_home_R1 {l : Launch} {Ls : Nat} {xs : Nat → Int32} {c18 : Blk} {τ : Nat → List (Option Nat)} {h : PH} {j : Nat} (hΦ : Φ τ) (hz : RR τ) (hj : 6 * j + 6 ≤ Ls) (hL : Ls ≤ 3072) (hh : all2 (gC ρ0 τ) HL_R1 h) (K : ∀ (τ2 : Nat → List (Option Nat)) (h2 : PH), Φ τ2 → HH τ2 h2 → c18 [some (.inr (some (.inr []))), some (.inr (some (.inl 0))), some (.inr (some (.inl 55))), some (.inl (f_add (nI (6 * j)) 6))] [] h2) : b_L_law_613 l Ls xs c18 [some (.inr (some (.inr []))), some (.inr (some (.inl 0))), some (.inr (some (.inl 55))), some (.inl (nI (6 * j)))] [] h := by
  refine And.intro (sv (k := 1) hj hL (by omega)) ?_
  refine And.intro (sv (k := 2) hj hL (by omega)) ?_
  refine callT (τ := τ) (tm := tmO [1, 14, 19, 24, 27, 29, 32, 35, 54, 39, 40, 47]) (A := [.inl (-2147483648, 2147483647), .inl (-2147483648, 2147483647), .inr (.inr (some (.inl 0)))]) (H := HL_R1) (Ts := [([.inl (-2147483648, 2147483647)], HL_R1)]) hΦ s_X11_home ⟨topA_ok _, topA_ok _, rfl, trivial⟩ hh (by decide +kernel) (fun T hT st h1 q1 q2 => ?_)
  cases List.mem_singleton.mp hT
  obtain ⟨v, rfl, _⟩ := st1 q1
  refine And.intro (sv (k := 1) hj hL (by omega)) ?_
  refine And.intro (sv (k := 2) hj hL (by omega)) ?_
  refine callT (τ := τ) (tm := tmO [57, 58, 59, 62, 63, 64, 65, 66, 67, 68, 69, 70, 71, 72, 73, 74, 75, 76, 77, 78, 79, 80, 81, 82, 83, 84, 85, 86]) (A := [.inl (-2147483648, 2147483647), .inl (-2147483648, 2147483647), .inr (.inr (some (.inl 55)))]) (H := HL_R1) (Ts := [([.inl (-2147483648, 2147483647)], HL_R1)]) hΦ s_X12_home ⟨topA_ok _, topA_ok _, rfl, trivial⟩ q2 (by decide +kernel) (fun T hT st h2 q3 q4 => ?_)
  cases List.mem_singleton.mp hT
  obtain ⟨w, rfl, _⟩ := st1 q3
  exact K τ h2 hΦ ⟨hz, Or.inl (Or.inr q4)⟩

set_option maxRecDepth 100000 in
theorem g_law_lying_R1 {l : Launch} {Ls : Nat} {xs : Nat → Int32} {c18 : Blk} {τ : Nat → List (Option Nat)} {h : PH} {j : Nat} (hΦ : Φ τ) (hz : RR τ) (hj : 6 * j + 6 ≤ Ls) (hL : Ls ≤ 3072) (hh : all2 (gC ρ0 τ) HL_R1 h) (K : ∀ (τ2 : Nat → List (Option Nat)) (h2 : PH), Φ τ2 → HH τ2 h2 → c18 [some (.inr (some (.inr []))), some (.inr (some (.inl 0))), some (.inr (some (.inl 55))), some (.inl (f_add (nI (6 * j)) 6))] [] h2) : b_L_law_646 l Ls xs c18 [some (.inr (some (.inr []))), some (.inr (some (.inl 0))), some (.inr (some (.inl 55))), some (.inl (nI (6 * j)))] [] h := by
  refine And.intro (sv (k := 1) hj hL (by omega)) ?_
  refine callT (τ := τ) (tm := tmO [1, 3, 14, 19, 24, 27, 29, 32, 35, 54, 39, 40, 47]) (A := [.inl (-2147483648, 2147483647), .inr (.inr (some (.inl 0)))]) (H := HL_R1) (Ts := [([.inl (-2147483648, 2147483647)], HL_R1)]) hΦ s_X11_lying ⟨topA_ok _, rfl, trivial⟩ hh (by decide +kernel) (fun T hT st h1 q1 q2 => ?_)
  cases List.mem_singleton.mp hT
  obtain ⟨v, rfl, _⟩ := st1 q1
  refine And.intro (sv (k := 1) hj hL (by omega)) ?_
  refine callT (τ := τ) (tm := tmO [57, 58, 59, 60, 61, 62, 63, 64, 65, 66, 67, 68, 69, 70, 71, 72, 73, 74, 75, 76, 77, 78, 79, 80, 81, 82, 83, 84, 85, 86]) (A := [.inl (-2147483648, 2147483647), .inr (.inr (some (.inl 55)))]) (H := HL_R1) (Ts := [([.inl (-2147483648, 2147483647)], HL_R1)]) hΦ s_X12_lying ⟨topA_ok _, rfl, trivial⟩ q2 (by decide +kernel) (fun T hT st h2 q3 q4 => ?_)
  cases List.mem_singleton.mp hT
  obtain ⟨w, rfl, _⟩ := st1 q3
  exact K τ h2 hΦ ⟨hz, Or.inl (Or.inr q4)⟩

set_option maxRecDepth 100000 in
theorem g_law_stamped_R1_y20 {l : Launch} {Ls : Nat} {xs : Nat → Int32} {c18 : Blk} {τ : Nat → List (Option Nat)} {h : PH} {j : Nat} (hΦ : Φ τ) (hz : RR τ) (hj : 6 * j + 6 ≤ Ls) (hL : Ls ≤ 3072) (hh : all2 (gC ρ0 τ) HL_R1 h) (K : ∀ (τ2 : Nat → List (Option Nat)) (h2 : PH), Φ τ2 → HH τ2 h2 → c18 [some (.inr (some (.inr []))), some (.inr (some (.inl 0))), some (.inr (some (.inl 55))), some (.inl (f_add (nI (6 * j)) 6))] [] h2) (g1 : 1 ≤ (xs (f_add (nI (6 * j)) 1).toNatClampNeg).toInt ∧ (xs (f_add (nI (6 * j)) 1).toNatClampNeg).toInt ≤ 9) (g2 : 0 ≤ (xs (f_add (nI (6 * j)) 2).toNatClampNeg).toInt ∧ (xs (f_add (nI (6 * j)) 2).toNatClampNeg).toInt ≤ 383) (g3 : 0 ≤ (xs (f_add (nI (6 * j)) 3).toNatClampNeg).toInt ∧ (xs (f_add (nI (6 * j)) 3).toNatClampNeg).toInt ≤ 383) (g4 : 0 ≤ (xs (f_add (nI (6 * j)) 4).toNatClampNeg).toInt ∧ (xs (f_add (nI (6 * j)) 4).toNatClampNeg).toInt ≤ 60) (g5 : 0 ≤ (xs (f_add (nI (6 * j)) 5).toNatClampNeg).toInt ∧ (xs (f_add (nI (6 * j)) 5).toNatClampNeg).toInt ≤ 1) (hs : 20 ≤ (decA (τ 202) 0).toInt ∧ (decA (τ 202) 0).toInt ≤ 260) : b_L_law_669 l Ls xs c18 [some (.inr (some (.inr []))), some (.inr (some (.inl 0))), some (.inr (some (.inl 55))), some (.inl (nI (6 * j)))] [] h := by
  have hh := fyH (k := 202) (c := 20) (d := 260) (E := HL_R1_y20) rfl hs.1 hs.2 (by decide +kernel) hh
  obtain ⟨n, n_, e1⟩ := rng_n (x := (xs (f_add (nI (6 * j)) 1).toNatClampNeg)) (k := 9) (by omega) (by omega)
  have s1 : (nI n).toInt = _ := nI_toInt (by omega)
  have g1 := g1
  rw [e1] at g1
  obtain ⟨p, p_, e2⟩ := rng_n (x := (xs (f_add (nI (6 * j)) 2).toNatClampNeg)) (k := 383) (by omega) (by omega)
  have s2 : (nI p).toInt = _ := nI_toInt (by omega)
  have g2 := g2
  rw [e2] at g2
  obtain ⟨q, q_, e3⟩ := rng_n (x := (xs (f_add (nI (6 * j)) 3).toNatClampNeg)) (k := 383) (by omega) (by omega)
  have s3 : (nI q).toInt = _ := nI_toInt (by omega)
  have g3 := g3
  rw [e3] at g3
  obtain ⟨d, d_, e4⟩ := rng_n (x := (xs (f_add (nI (6 * j)) 4).toNatClampNeg)) (k := 60) (by omega) (by omega)
  have s4 : (nI d).toInt = _ := nI_toInt (by omega)
  have g4 := g4
  rw [e4] at g4
  obtain ⟨w, w_, e5⟩ := rng_n (x := (xs (f_add (nI (6 * j)) 5).toNatClampNeg)) (k := 1) (by omega) (by omega)
  have s5 : (nI w).toInt = _ := nI_toInt (by omega)
  have g5 := g5
  rw [e5] at g5
  obtain ⟨c, T, fm, fw, fx, fy, hc, hRC, hRR⟩ := RE_W hz.2.2.1 hz.2.2.2.1
  obtain ⟨W, hWC, hWR⟩ := W_of hz.2.2.2.2.2.2
  have rC := x_stampedC (l := l) (n := n) (p := p) (q := q) (d := d) (w := w) (W := W) (c := c) (T := T) (fm := fm) (fw := fw) (fx := fx) (fy := fy) ⟨by omega, by omega⟩ (by omega) (by omega) (by omega) (by omega) hc
  rw [← e1, ← e2, ← e3, ← e4, ← e5] at rC
  have rR := x_stampedR (l := l) (n := n) (p := p) (q := q) (d := d) (w := w) (W := W) (c := c) (T := T) (fm := fm) (fw := fw) (fx := fx) (fy := fy) ⟨by omega, by omega⟩ (by omega) (by omega) (by omega) (by omega) hc
  rw [← e1, ← e2, ← e3, ← e4, ← e5] at rR
  refine And.intro (sv (k := 1) hj hL (by omega)) ?_
  refine And.intro (sv (k := 2) hj hL (by omega)) ?_
  refine And.intro (sv (k := 3) hj hL (by omega)) ?_
  refine And.intro (sv (k := 4) hj hL (by omega)) ?_
  refine And.intro (sv (k := 5) hj hL (by omega)) ?_
  refine callX (τ := τ) (xs := [(xs (f_add (nI (6 * j)) 1).toNatClampNeg), (xs (f_add (nI (6 * j)) 2).toNatClampNeg), (xs (f_add (nI (6 * j)) 3).toNatClampNeg), (xs (f_add (nI (6 * j)) 4).toNatClampNeg), (xs (f_add (nI (6 * j)) 5).toNatClampNeg)]) (rest := []) (a := 0) (ci := 10) (tm := tmO [9, 14, 19, 24, 29, 32, 35, 54, 39, 40, 47]) (H := HL_R1_y20) (H2 := HL_R1_w20) hΦ ⟨hRC, hWC⟩ rC hh (fun K h => h) rfl rfl rfl (by decide +kernel) (by decide +kernel) (by decide +kernel) (by decide +kernel) (fun τ2 p2 p3 yv h1 qv q2 => ?_)
  have e_ : τ2 = τ := funext fun t => p3 t (Bool.and_false _)
  rw [e_] at q2
  refine And.intro (sv (k := 1) hj hL (by omega)) ?_
  refine And.intro (sv (k := 2) hj hL (by omega)) ?_
  refine And.intro (sv (k := 3) hj hL (by omega)) ?_
  refine And.intro (sv (k := 4) hj hL (by omega)) ?_
  refine And.intro (sv (k := 5) hj hL (by omega)) ?_
  refine callX (τ := τ) (xs := [(xs (f_add (nI (6 * j)) 1).toNatClampNeg), (xs (f_add (nI (6 * j)) 2).toNatClampNeg), (xs (f_add (nI (6 * j)) 3).toNatClampNeg), (xs (f_add (nI (6 * j)) 4).toNatClampNeg), (xs (f_add (nI (6 * j)) 5).toNatClampNeg)]) (rest := [.inl yv]) (a := 55) (ci := 11) (tm := tmO [56, 57, 58, 63, 65, 66, 67, 68, 69, 70, 71, 72, 73, 74, 75, 76, 77, 78, 79, 80, 81, 82, 83, 85, 86]) (H := HL_R1_w20) (H2 := HL_R1_z0) hΦ ⟨hRR, hWR⟩ rR q2 (fun K h => h) rfl rfl rfl (by decide +kernel) (by decide +kernel) (by decide +kernel) (by decide +kernel) (fun τ3 p4 p5 yw h2 qw q4 => ?_)
  have e3_ : τ3 = τ := funext fun t => p5 t (Bool.and_false _)
  rw [e3_] at q4
  have qv : yv = stV c T fm fw fx fy (ob (decA (τ 250))) W n p q d w := qv
  have qw : yw = stV c T fm fw fx fy (ob (fun i => f_and (decA (τ 251) i) 255)) W n p q d w := qw
  rw [← ob_same hz.2.1] at qw
  have ev : yv = yw := qv.trans qw.symm
  refine And.intro (fun _ => ?_) (fun z => absurd ev z)
  exact K (upT τ 202 0) h2 hΦ ⟨RR_up 0 (by omega) upT_at hz.2, Or.inl (Or.inr (mvH (k := 202) (c := 0) rfl (fun t ht => upT_ne ht) (by rw [upT_at]; rfl) (by decide) (by decide +kernel) q4))⟩

set_option maxRecDepth 100000 in
theorem g_law_stamped_R1_n {l : Launch} {Ls : Nat} {xs : Nat → Int32} {c18 : Blk} {τ : Nat → List (Option Nat)} {h : PH} {j : Nat} (hΦ : Φ τ) (hz : RR τ) (hj : 6 * j + 6 ≤ Ls) (hL : Ls ≤ 3072) (hh : all2 (gC ρ0 τ) HL_R1 h) (K : ∀ (τ2 : Nat → List (Option Nat)) (h2 : PH), Φ τ2 → HH τ2 h2 → c18 [some (.inr (some (.inr []))), some (.inr (some (.inl 0))), some (.inr (some (.inl 55))), some (.inl (f_add (nI (6 * j)) 6))] [] h2) (hN : ¬ nd_stamped (xs (f_add (nI (6 * j)) 1).toNatClampNeg) (xs (f_add (nI (6 * j)) 2).toNatClampNeg) (xs (f_add (nI (6 * j)) 3).toNatClampNeg) (xs (f_add (nI (6 * j)) 4).toNatClampNeg) (xs (f_add (nI (6 * j)) 5).toNatClampNeg) (decA (τ 202) 0)) : b_L_law_669 l Ls xs c18 [some (.inr (some (.inr []))), some (.inr (some (.inl 0))), some (.inr (some (.inl 55))), some (.inl (nI (6 * j)))] [] h := by
  refine And.intro (sv (k := 1) hj hL (by omega)) ?_
  refine And.intro (sv (k := 2) hj hL (by omega)) ?_
  refine And.intro (sv (k := 3) hj hL (by omega)) ?_
  refine And.intro (sv (k := 4) hj hL (by omega)) ?_
  refine And.intro (sv (k := 5) hj hL (by omega)) ?_
  refine callSame (τ := τ) (xs := [(xs (f_add (nI (6 * j)) 1).toNatClampNeg), (xs (f_add (nI (6 * j)) 2).toNatClampNeg), (xs (f_add (nI (6 * j)) 3).toNatClampNeg), (xs (f_add (nI (6 * j)) 4).toNatClampNeg), (xs (f_add (nI (6 * j)) 5).toNatClampNeg)]) (v := -1) (rest := []) (a := 0) (ci := 10) (tm := tmO [9, 14, 19, 24, 29, 32, 35, 54, 39, 40, 47]) (H := HL_R1) hΦ hN i_nstampedC hh (fun K h => h) rfl rfl rfl (by decide +kernel) ?_
  refine And.intro (sv (k := 1) hj hL (by omega)) ?_
  refine And.intro (sv (k := 2) hj hL (by omega)) ?_
  refine And.intro (sv (k := 3) hj hL (by omega)) ?_
  refine And.intro (sv (k := 4) hj hL (by omega)) ?_
  refine And.intro (sv (k := 5) hj hL (by omega)) ?_
  refine callSame (τ := τ) (xs := [(xs (f_add (nI (6 * j)) 1).toNatClampNeg), (xs (f_add (nI (6 * j)) 2).toNatClampNeg), (xs (f_add (nI (6 * j)) 3).toNatClampNeg), (xs (f_add (nI (6 * j)) 4).toNatClampNeg), (xs (f_add (nI (6 * j)) 5).toNatClampNeg)]) (v := -1) (rest := [.inl (-1)]) (a := 55) (ci := 11) (tm := tmO [56, 57, 58, 63, 65, 66, 67, 68, 69, 70, 71, 72, 73, 74, 75, 76, 77, 78, 79, 80, 81, 82, 83, 85, 86]) (H := HL_R1) hΦ hN i_nstampedR hh (fun K h => h) rfl rfl rfl (by decide +kernel) ?_
  refine And.intro (fun _ => ?_) (fun z => absurd rfl z)
  exact K τ h hΦ ⟨hz, Or.inl (Or.inr hh)⟩

theorem g_law_stamped_R1 {l : Launch} {Ls : Nat} {xs : Nat → Int32} {c18 : Blk} {τ : Nat → List (Option Nat)} {h : PH} {j : Nat} (hΦ : Φ τ) (hz : RR τ) (hj : 6 * j + 6 ≤ Ls) (hL : Ls ≤ 3072) (hh : all2 (gC ρ0 τ) HL_R1 h) (K : ∀ (τ2 : Nat → List (Option Nat)) (h2 : PH), Φ τ2 → HH τ2 h2 → c18 [some (.inr (some (.inr []))), some (.inr (some (.inl 0))), some (.inr (some (.inl 55))), some (.inl (f_add (nI (6 * j)) 6))] [] h2) : b_L_law_669 l Ls xs c18 [some (.inr (some (.inr []))), some (.inr (some (.inl 0))), some (.inr (some (.inl 55))), some (.inl (nI (6 * j)))] [] h := by
  by_cases hN : nd_stamped (xs (f_add (nI (6 * j)) 1).toNatClampNeg) (xs (f_add (nI (6 * j)) 2).toNatClampNeg) (xs (f_add (nI (6 * j)) 3).toNatClampNeg) (xs (f_add (nI (6 * j)) 4).toNatClampNeg) (xs (f_add (nI (6 * j)) 5).toNatClampNeg) (decA (τ 202) 0)
  rotate_left
  · exact g_law_stamped_R1_n hΦ hz hj hL hh K hN
  obtain ⟨q, hq, hs⟩ := hz.1
  have p1 : (1 : Int) ≤ (xs (f_add (nI (6 * j)) 1).toNatClampNeg).toInt ∧ (xs (f_add (nI (6 * j)) 1).toNatClampNeg).toInt ≤ 9 := ⟨ge32 hN.1.1, ge32 hN.1.2⟩
  have p2 : (0 : Int) ≤ (xs (f_add (nI (6 * j)) 2).toNatClampNeg).toInt ∧ (xs (f_add (nI (6 * j)) 2).toNatClampNeg).toInt ≤ 383 := ⟨ge32 hN.2.1.1, ge32 hN.2.1.2⟩
  have p3 : (0 : Int) ≤ (xs (f_add (nI (6 * j)) 3).toNatClampNeg).toInt ∧ (xs (f_add (nI (6 * j)) 3).toNatClampNeg).toInt ≤ 383 := ⟨ge32 hN.2.2.1.1, ge32 hN.2.2.1.2⟩
  have p4 : (0 : Int) ≤ (xs (f_add (nI (6 * j)) 4).toNatClampNeg).toInt ∧ (xs (f_add (nI (6 * j)) 4).toNatClampNeg).toInt ≤ 60 := ⟨ge32 hN.2.2.2.1.1, ge32 hN.2.2.2.1.2⟩
  have p5 : (0 : Int) ≤ (xs (f_add (nI (6 * j)) 5).toNatClampNeg).toInt ∧ (xs (f_add (nI (6 * j)) 5).toNatClampNeg).toInt ≤ 1 := ⟨ge32 hN.2.2.2.2.1.1, ge32 hN.2.2.2.2.1.2⟩
  have ps : (xs (f_add (nI (6 * j)) 1).toNatClampNeg).toInt ≤ (decA (τ 202) 0).toInt := ge32 hN.2.2.2.2.2
  exact g_law_stamped_R1_y20 hΦ hz hj hL hh K ⟨by omega, by omega⟩ ⟨by omega, by omega⟩ ⟨by omega, by omega⟩ ⟨by omega, by omega⟩ ⟨by omega, by omega⟩ ⟨by omega, by omega⟩

set_option maxRecDepth 100000 in
theorem g_law_hang_R1_y20 {l : Launch} {Ls : Nat} {xs : Nat → Int32} {c18 : Blk} {τ : Nat → List (Option Nat)} {h : PH} {j : Nat} (hΦ : Φ τ) (hz : RR τ) (hj : 6 * j + 6 ≤ Ls) (hL : Ls ≤ 3072) (hh : all2 (gC ρ0 τ) HL_R1 h) (K : ∀ (τ2 : Nat → List (Option Nat)) (h2 : PH), Φ τ2 → HH τ2 h2 → c18 [some (.inr (some (.inr []))), some (.inr (some (.inl 0))), some (.inr (some (.inl 55))), some (.inl (f_add (nI (6 * j)) 6))] [] h2) (g1 : 1 ≤ (xs (f_add (nI (6 * j)) 1).toNatClampNeg).toInt ∧ (xs (f_add (nI (6 * j)) 1).toNatClampNeg).toInt ≤ 9) (g2 : 0 ≤ (xs (f_add (nI (6 * j)) 2).toNatClampNeg).toInt ∧ (xs (f_add (nI (6 * j)) 2).toNatClampNeg).toInt ≤ 383) (g3 : 0 ≤ (xs (f_add (nI (6 * j)) 3).toNatClampNeg).toInt ∧ (xs (f_add (nI (6 * j)) 3).toNatClampNeg).toInt ≤ 1) (hs : 20 ≤ (decA (τ 202) 0).toInt ∧ (decA (τ 202) 0).toInt ≤ 260) : b_L_law_732 l Ls xs c18 [some (.inr (some (.inr []))), some (.inr (some (.inl 0))), some (.inr (some (.inl 55))), some (.inl (nI (6 * j)))] [] h := by
  have hh := fyH (k := 202) (c := 20) (d := 260) (E := HL_R1_y20) rfl hs.1 hs.2 (by decide +kernel) hh
  refine And.intro (sv (k := 1) hj hL (by omega)) ?_
  refine And.intro (sv (k := 2) hj hL (by omega)) ?_
  refine And.intro (sv (k := 3) hj hL (by omega)) ?_
  refine callT (τ := τ) (tm := tmO [9, 14, 19, 24, 29, 32, 35, 54, 39, 40, 47]) (A := [.inl (0, 1), .inl (0, 383), .inl (1, 9), .inr (.inr (some (.inl 0)))]) (H := HL_R1_y20) (Ts := [([.inl (-2147483648, 2147483647)], HL_R1_w20)]) hΦ s_X11_hang_y20 ⟨⟨_, rfl, g3⟩, ⟨_, rfl, g2⟩, ⟨_, rfl, g1⟩, rfl, trivial⟩ hh (by decide +kernel) (fun T hT st h1 q1 q2 => ?_)
  cases List.mem_singleton.mp hT
  obtain ⟨v, rfl, _⟩ := st1 q1
  refine And.intro (sv (k := 1) hj hL (by omega)) ?_
  refine And.intro (sv (k := 2) hj hL (by omega)) ?_
  refine And.intro (sv (k := 3) hj hL (by omega)) ?_
  refine callT (τ := τ) (tm := tmO [56, 57, 58, 62, 63, 65, 66, 67, 68, 69, 70, 71, 72, 73, 74, 75, 76, 77, 78, 79, 80, 81, 82, 83, 85, 86]) (A := [.inl (0, 1), .inl (0, 383), .inl (1, 9), .inr (.inr (some (.inl 55)))]) (H := HL_R1_w20) (Ts := [([.inl (-2147483648, 2147483647)], HL_R1_z0)]) hΦ s_X12_hang_y20 ⟨⟨_, rfl, g3⟩, ⟨_, rfl, g2⟩, ⟨_, rfl, g1⟩, rfl, trivial⟩ q2 (by decide +kernel) (fun T hT st h2 q3 q4 => ?_)
  cases List.mem_singleton.mp hT
  obtain ⟨w, rfl, _⟩ := st1 q3
  exact K (upT τ 202 0) h2 hΦ ⟨RR_up 0 (by omega) upT_at hz.2, Or.inl (Or.inr (mvH (k := 202) (c := 0) rfl (fun t ht => upT_ne ht) (by rw [upT_at]; rfl) (by decide) (by decide +kernel) q4))⟩

set_option maxRecDepth 100000 in
theorem g_law_hang_R1_n {l : Launch} {Ls : Nat} {xs : Nat → Int32} {c18 : Blk} {τ : Nat → List (Option Nat)} {h : PH} {j : Nat} (hΦ : Φ τ) (hz : RR τ) (hj : 6 * j + 6 ≤ Ls) (hL : Ls ≤ 3072) (hh : all2 (gC ρ0 τ) HL_R1 h) (K : ∀ (τ2 : Nat → List (Option Nat)) (h2 : PH), Φ τ2 → HH τ2 h2 → c18 [some (.inr (some (.inr []))), some (.inr (some (.inl 0))), some (.inr (some (.inl 55))), some (.inl (f_add (nI (6 * j)) 6))] [] h2) (hN : ¬ nd_hang (xs (f_add (nI (6 * j)) 1).toNatClampNeg) (xs (f_add (nI (6 * j)) 2).toNatClampNeg) (xs (f_add (nI (6 * j)) 3).toNatClampNeg) (decA (τ 202) 0)) : b_L_law_732 l Ls xs c18 [some (.inr (some (.inr []))), some (.inr (some (.inl 0))), some (.inr (some (.inl 55))), some (.inl (nI (6 * j)))] [] h := by
  refine And.intro (sv (k := 1) hj hL (by omega)) ?_
  refine And.intro (sv (k := 2) hj hL (by omega)) ?_
  refine And.intro (sv (k := 3) hj hL (by omega)) ?_
  refine callSame (τ := τ) (xs := [(xs (f_add (nI (6 * j)) 1).toNatClampNeg), (xs (f_add (nI (6 * j)) 2).toNatClampNeg), (xs (f_add (nI (6 * j)) 3).toNatClampNeg)]) (v := -1) (rest := []) (a := 0) (ci := 10) (tm := tmO [9, 14, 19, 24, 29, 32, 35, 54, 39, 40, 47]) (H := HL_R1) hΦ hN i_nhangC hh (fun K h => h) rfl rfl rfl (by decide +kernel) ?_
  refine And.intro (sv (k := 1) hj hL (by omega)) ?_
  refine And.intro (sv (k := 2) hj hL (by omega)) ?_
  refine And.intro (sv (k := 3) hj hL (by omega)) ?_
  refine callSame (τ := τ) (xs := [(xs (f_add (nI (6 * j)) 1).toNatClampNeg), (xs (f_add (nI (6 * j)) 2).toNatClampNeg), (xs (f_add (nI (6 * j)) 3).toNatClampNeg)]) (v := -1) (rest := []) (a := 55) (ci := 11) (tm := tmO [56, 57, 58, 62, 63, 65, 66, 67, 68, 69, 70, 71, 72, 73, 74, 75, 76, 77, 78, 79, 80, 81, 82, 83, 85, 86]) (H := HL_R1) hΦ hN i_nhangR hh (fun K h => h) rfl rfl rfl (by decide +kernel) ?_
  exact K τ h hΦ ⟨hz, Or.inl (Or.inr hh)⟩

theorem g_law_hang_R1 {l : Launch} {Ls : Nat} {xs : Nat → Int32} {c18 : Blk} {τ : Nat → List (Option Nat)} {h : PH} {j : Nat} (hΦ : Φ τ) (hz : RR τ) (hj : 6 * j + 6 ≤ Ls) (hL : Ls ≤ 3072) (hh : all2 (gC ρ0 τ) HL_R1 h) (K : ∀ (τ2 : Nat → List (Option Nat)) (h2 : PH), Φ τ2 → HH τ2 h2 → c18 [some (.inr (some (.inr []))), some (.inr (some (.inl 0))), some (.inr (some (.inl 55))), some (.inl (f_add (nI (6 * j)) 6))] [] h2) : b_L_law_732 l Ls xs c18 [some (.inr (some (.inr []))), some (.inr (some (.inl 0))), some (.inr (some (.inl 55))), some (.inl (nI (6 * j)))] [] h := by
  by_cases hN : nd_hang (xs (f_add (nI (6 * j)) 1).toNatClampNeg) (xs (f_add (nI (6 * j)) 2).toNatClampNeg) (xs (f_add (nI (6 * j)) 3).toNatClampNeg) (decA (τ 202) 0)
  rotate_left
  · exact g_law_hang_R1_n hΦ hz hj hL hh K hN
  obtain ⟨q, hq, hs⟩ := hz.1
  have p1 : (1 : Int) ≤ (xs (f_add (nI (6 * j)) 1).toNatClampNeg).toInt ∧ (xs (f_add (nI (6 * j)) 1).toNatClampNeg).toInt ≤ 9 := ⟨ge32 hN.1.1, ge32 hN.1.2⟩
  have p2 : (0 : Int) ≤ (xs (f_add (nI (6 * j)) 2).toNatClampNeg).toInt ∧ (xs (f_add (nI (6 * j)) 2).toNatClampNeg).toInt ≤ 383 := ⟨ge32 hN.2.1.1, ge32 hN.2.1.2⟩
  have p3 : (0 : Int) ≤ (xs (f_add (nI (6 * j)) 3).toNatClampNeg).toInt ∧ (xs (f_add (nI (6 * j)) 3).toNatClampNeg).toInt ≤ 1 := ⟨ge32 hN.2.2.1.1, ge32 hN.2.2.1.2⟩
  have ps : (xs (f_add (nI (6 * j)) 1).toNatClampNeg).toInt ≤ (decA (τ 202) 0).toInt := ge32 hN.2.2.2
  exact g_law_hang_R1_y20 hΦ hz hj hL hh K ⟨by omega, by omega⟩ ⟨by omega, by omega⟩ ⟨by omega, by omega⟩ ⟨by omega, by omega⟩

set_option maxRecDepth 100000 in
theorem g_law_falseOnes_R1_y20 {l : Launch} {Ls : Nat} {xs : Nat → Int32} {c18 : Blk} {τ : Nat → List (Option Nat)} {h : PH} {j : Nat} (hΦ : Φ τ) (hz : RR τ) (hj : 6 * j + 6 ≤ Ls) (hL : Ls ≤ 3072) (hh : all2 (gC ρ0 τ) HL_R1 h) (K : ∀ (τ2 : Nat → List (Option Nat)) (h2 : PH), Φ τ2 → HH τ2 h2 → c18 [some (.inr (some (.inr []))), some (.inr (some (.inl 0))), some (.inr (some (.inl 55))), some (.inl (f_add (nI (6 * j)) 6))] [] h2) (g1 : 1 ≤ (xs (f_add (nI (6 * j)) 1).toNatClampNeg).toInt ∧ (xs (f_add (nI (6 * j)) 1).toNatClampNeg).toInt ≤ 9) (g2 : 0 ≤ (xs (f_add (nI (6 * j)) 2).toNatClampNeg).toInt ∧ (xs (f_add (nI (6 * j)) 2).toNatClampNeg).toInt ≤ 383) (g3 : -1 ≤ (xs (f_add (nI (6 * j)) 3).toNatClampNeg).toInt ∧ (xs (f_add (nI (6 * j)) 3).toNatClampNeg).toInt ≤ 1) (g4 : -1 ≤ (xs (f_add (nI (6 * j)) 4).toNatClampNeg).toInt ∧ (xs (f_add (nI (6 * j)) 4).toNatClampNeg).toInt ≤ 1) (g5 : 0 ≤ (xs (f_add (nI (6 * j)) 5).toNatClampNeg).toInt ∧ (xs (f_add (nI (6 * j)) 5).toNatClampNeg).toInt ≤ 1) (hs : 20 ≤ (decA (τ 202) 0).toInt ∧ (decA (τ 202) 0).toInt ≤ 260) : b_L_law_775 l Ls xs c18 [some (.inr (some (.inr []))), some (.inr (some (.inl 0))), some (.inr (some (.inl 55))), some (.inl (nI (6 * j)))] [] h := by
  have hh := fyH (k := 202) (c := 20) (d := 260) (E := HL_R1_y20) rfl hs.1 hs.2 (by decide +kernel) hh
  refine And.intro (sv (k := 1) hj hL (by omega)) ?_
  refine And.intro (sv (k := 2) hj hL (by omega)) ?_
  refine And.intro (sv (k := 3) hj hL (by omega)) ?_
  refine And.intro (sv (k := 4) hj hL (by omega)) ?_
  refine And.intro (sv (k := 5) hj hL (by omega)) ?_
  refine callT (τ := τ) (tm := tmO [9, 14, 19, 24, 29, 32, 35, 54, 39, 40, 47]) (A := [.inl (0, 1), .inl (-1, 1), .inl (-1, 1), .inl (0, 383), .inl (1, 9), .inr (.inr (some (.inl 0)))]) (H := HL_R1_y20) (Ts := [([.inl (-2147483648, 2147483647)], HL_R1_w20)]) hΦ s_X11_falseOnes_y20 ⟨⟨_, rfl, g5⟩, ⟨_, rfl, g4⟩, ⟨_, rfl, g3⟩, ⟨_, rfl, g2⟩, ⟨_, rfl, g1⟩, rfl, trivial⟩ hh (by decide +kernel) (fun T hT st h1 q1 q2 => ?_)
  cases List.mem_singleton.mp hT
  obtain ⟨v, rfl, _⟩ := st1 q1
  refine And.intro (sv (k := 1) hj hL (by omega)) ?_
  refine And.intro (sv (k := 2) hj hL (by omega)) ?_
  refine And.intro (sv (k := 3) hj hL (by omega)) ?_
  refine And.intro (sv (k := 4) hj hL (by omega)) ?_
  refine And.intro (sv (k := 5) hj hL (by omega)) ?_
  refine callT (τ := τ) (tm := tmO [56, 57, 58, 62, 63, 65, 66, 67, 68, 69, 70, 71, 72, 73, 74, 75, 76, 77, 78, 79, 80, 81, 82, 83, 85, 86]) (A := [.inl (0, 1), .inl (-1, 1), .inl (-1, 1), .inl (0, 383), .inl (1, 9), .inr (.inr (some (.inl 55)))]) (H := HL_R1_w20) (Ts := [([.inl (-2147483648, 2147483647)], HL_R1_z0)]) hΦ s_X12_falseOnes_y20 ⟨⟨_, rfl, g5⟩, ⟨_, rfl, g4⟩, ⟨_, rfl, g3⟩, ⟨_, rfl, g2⟩, ⟨_, rfl, g1⟩, rfl, trivial⟩ q2 (by decide +kernel) (fun T hT st h2 q3 q4 => ?_)
  cases List.mem_singleton.mp hT
  obtain ⟨w, rfl, _⟩ := st1 q3
  exact K (upT τ 202 0) h2 hΦ ⟨RR_up 0 (by omega) upT_at hz.2, Or.inl (Or.inr (mvH (k := 202) (c := 0) rfl (fun t ht => upT_ne ht) (by rw [upT_at]; rfl) (by decide) (by decide +kernel) q4))⟩

set_option maxRecDepth 100000 in
theorem g_law_falseOnes_R1_n {l : Launch} {Ls : Nat} {xs : Nat → Int32} {c18 : Blk} {τ : Nat → List (Option Nat)} {h : PH} {j : Nat} (hΦ : Φ τ) (hz : RR τ) (hj : 6 * j + 6 ≤ Ls) (hL : Ls ≤ 3072) (hh : all2 (gC ρ0 τ) HL_R1 h) (K : ∀ (τ2 : Nat → List (Option Nat)) (h2 : PH), Φ τ2 → HH τ2 h2 → c18 [some (.inr (some (.inr []))), some (.inr (some (.inl 0))), some (.inr (some (.inl 55))), some (.inl (f_add (nI (6 * j)) 6))] [] h2) (hN : ¬ nd_falseOnes (xs (f_add (nI (6 * j)) 1).toNatClampNeg) (xs (f_add (nI (6 * j)) 2).toNatClampNeg) (xs (f_add (nI (6 * j)) 3).toNatClampNeg) (xs (f_add (nI (6 * j)) 4).toNatClampNeg) (xs (f_add (nI (6 * j)) 5).toNatClampNeg) (decA (τ 202) 0)) : b_L_law_775 l Ls xs c18 [some (.inr (some (.inr []))), some (.inr (some (.inl 0))), some (.inr (some (.inl 55))), some (.inl (nI (6 * j)))] [] h := by
  refine And.intro (sv (k := 1) hj hL (by omega)) ?_
  refine And.intro (sv (k := 2) hj hL (by omega)) ?_
  refine And.intro (sv (k := 3) hj hL (by omega)) ?_
  refine And.intro (sv (k := 4) hj hL (by omega)) ?_
  refine And.intro (sv (k := 5) hj hL (by omega)) ?_
  refine callSame (τ := τ) (xs := [(xs (f_add (nI (6 * j)) 1).toNatClampNeg), (xs (f_add (nI (6 * j)) 2).toNatClampNeg), (xs (f_add (nI (6 * j)) 3).toNatClampNeg), (xs (f_add (nI (6 * j)) 4).toNatClampNeg), (xs (f_add (nI (6 * j)) 5).toNatClampNeg)]) (v := -1) (rest := []) (a := 0) (ci := 10) (tm := tmO [9, 14, 19, 24, 29, 32, 35, 54, 39, 40, 47]) (H := HL_R1) hΦ hN i_nfalseOnesC hh (fun K h => h) rfl rfl rfl (by decide +kernel) ?_
  refine And.intro (sv (k := 1) hj hL (by omega)) ?_
  refine And.intro (sv (k := 2) hj hL (by omega)) ?_
  refine And.intro (sv (k := 3) hj hL (by omega)) ?_
  refine And.intro (sv (k := 4) hj hL (by omega)) ?_
  refine And.intro (sv (k := 5) hj hL (by omega)) ?_
  refine callSame (τ := τ) (xs := [(xs (f_add (nI (6 * j)) 1).toNatClampNeg), (xs (f_add (nI (6 * j)) 2).toNatClampNeg), (xs (f_add (nI (6 * j)) 3).toNatClampNeg), (xs (f_add (nI (6 * j)) 4).toNatClampNeg), (xs (f_add (nI (6 * j)) 5).toNatClampNeg)]) (v := -1) (rest := []) (a := 55) (ci := 11) (tm := tmO [56, 57, 58, 62, 63, 65, 66, 67, 68, 69, 70, 71, 72, 73, 74, 75, 76, 77, 78, 79, 80, 81, 82, 83, 85, 86]) (H := HL_R1) hΦ hN i_nfalseOnesR hh (fun K h => h) rfl rfl rfl (by decide +kernel) ?_
  exact K τ h hΦ ⟨hz, Or.inl (Or.inr hh)⟩

theorem g_law_falseOnes_R1 {l : Launch} {Ls : Nat} {xs : Nat → Int32} {c18 : Blk} {τ : Nat → List (Option Nat)} {h : PH} {j : Nat} (hΦ : Φ τ) (hz : RR τ) (hj : 6 * j + 6 ≤ Ls) (hL : Ls ≤ 3072) (hh : all2 (gC ρ0 τ) HL_R1 h) (K : ∀ (τ2 : Nat → List (Option Nat)) (h2 : PH), Φ τ2 → HH τ2 h2 → c18 [some (.inr (some (.inr []))), some (.inr (some (.inl 0))), some (.inr (some (.inl 55))), some (.inl (f_add (nI (6 * j)) 6))] [] h2) : b_L_law_775 l Ls xs c18 [some (.inr (some (.inr []))), some (.inr (some (.inl 0))), some (.inr (some (.inl 55))), some (.inl (nI (6 * j)))] [] h := by
  by_cases hN : nd_falseOnes (xs (f_add (nI (6 * j)) 1).toNatClampNeg) (xs (f_add (nI (6 * j)) 2).toNatClampNeg) (xs (f_add (nI (6 * j)) 3).toNatClampNeg) (xs (f_add (nI (6 * j)) 4).toNatClampNeg) (xs (f_add (nI (6 * j)) 5).toNatClampNeg) (decA (τ 202) 0)
  rotate_left
  · exact g_law_falseOnes_R1_n hΦ hz hj hL hh K hN
  obtain ⟨q, hq, hs⟩ := hz.1
  have p1 : (1 : Int) ≤ (xs (f_add (nI (6 * j)) 1).toNatClampNeg).toInt ∧ (xs (f_add (nI (6 * j)) 1).toNatClampNeg).toInt ≤ 9 := ⟨ge32 hN.1.1, ge32 hN.1.2⟩
  have p2 : (0 : Int) ≤ (xs (f_add (nI (6 * j)) 2).toNatClampNeg).toInt ∧ (xs (f_add (nI (6 * j)) 2).toNatClampNeg).toInt ≤ 383 := ⟨ge32 hN.2.1.1, ge32 hN.2.1.2⟩
  have p3 : (-1 : Int) ≤ (xs (f_add (nI (6 * j)) 3).toNatClampNeg).toInt ∧ (xs (f_add (nI (6 * j)) 3).toNatClampNeg).toInt ≤ 1 := ⟨ge32 hN.2.2.1.1, ge32 hN.2.2.1.2⟩
  have p4 : (-1 : Int) ≤ (xs (f_add (nI (6 * j)) 4).toNatClampNeg).toInt ∧ (xs (f_add (nI (6 * j)) 4).toNatClampNeg).toInt ≤ 1 := ⟨ge32 hN.2.2.2.1.1, ge32 hN.2.2.2.1.2⟩
  have p5 : (0 : Int) ≤ (xs (f_add (nI (6 * j)) 5).toNatClampNeg).toInt ∧ (xs (f_add (nI (6 * j)) 5).toNatClampNeg).toInt ≤ 1 := ⟨ge32 hN.2.2.2.2.1.1, ge32 hN.2.2.2.2.1.2⟩
  have ps : (xs (f_add (nI (6 * j)) 1).toNatClampNeg).toInt ≤ (decA (τ 202) 0).toInt := ge32 hN.2.2.2.2.2
  exact g_law_falseOnes_R1_y20 hΦ hz hj hL hh K ⟨by omega, by omega⟩ ⟨by omega, by omega⟩ ⟨by omega, by omega⟩ ⟨by omega, by omega⟩ ⟨by omega, by omega⟩ ⟨by omega, by omega⟩

set_option maxRecDepth 100000 in
theorem g_law_printed_R1_y20 {l : Launch} {Ls : Nat} {xs : Nat → Int32} {c18 : Blk} {τ : Nat → List (Option Nat)} {h : PH} {j : Nat} (hΦ : Φ τ) (hz : RR τ) (hj : 6 * j + 6 ≤ Ls) (hL : Ls ≤ 3072) (hh : all2 (gC ρ0 τ) HL_R1 h) (K : ∀ (τ2 : Nat → List (Option Nat)) (h2 : PH), Φ τ2 → HH τ2 h2 → c18 [some (.inr (some (.inr []))), some (.inr (some (.inl 0))), some (.inr (some (.inl 55))), some (.inl (f_add (nI (6 * j)) 6))] [] h2) (g1 : 1 ≤ (xs (f_add (nI (6 * j)) 1).toNatClampNeg).toInt ∧ (xs (f_add (nI (6 * j)) 1).toNatClampNeg).toInt ≤ 6) (hs : 20 ≤ (decA (τ 202) 0).toInt ∧ (decA (τ 202) 0).toInt ≤ 260) : b_L_law_838 l Ls xs c18 [some (.inr (some (.inr []))), some (.inr (some (.inl 0))), some (.inr (some (.inl 55))), some (.inl (nI (6 * j)))] [] h := by
  have hh := fyH (k := 202) (c := 20) (d := 260) (E := HL_R1_y20) rfl hs.1 hs.2 (by decide +kernel) hh
  refine And.intro (sv (k := 1) hj hL (by omega)) ?_
  refine callT (τ := τ) (tm := tmO [9, 14, 19, 24, 27, 29, 32, 35, 54, 39, 40, 47]) (A := [.inl (1, 6), .inr (.inr (some (.inl 0)))]) (H := HL_R1_y20) (Ts := [([.inl (-2147483648, 2147483647)], HL_R1_w20)]) hΦ s_X11_printed_y20 ⟨⟨_, rfl, g1⟩, rfl, trivial⟩ hh (by decide +kernel) (fun T hT st h1 q1 q2 => ?_)
  cases List.mem_singleton.mp hT
  obtain ⟨v, rfl, _⟩ := st1 q1
  refine And.intro (sv (k := 1) hj hL (by omega)) ?_
  refine callT (τ := τ) (tm := tmO [56, 57, 58, 60, 61, 62, 63, 65, 66, 67, 68, 69, 70, 71, 72, 73, 74, 75, 76, 77, 78, 79, 80, 81, 82, 83, 84, 85, 86]) (A := [.inl (1, 6), .inr (.inr (some (.inl 55)))]) (H := HL_R1_w20) (Ts := [([.inl (-2147483648, 2147483647)], HL_R1_z0)]) hΦ s_X12_printed_y20 ⟨⟨_, rfl, g1⟩, rfl, trivial⟩ q2 (by decide +kernel) (fun T hT st h2 q3 q4 => ?_)
  cases List.mem_singleton.mp hT
  obtain ⟨w, rfl, _⟩ := st1 q3
  exact K (upT τ 202 0) h2 hΦ ⟨RR_up 0 (by omega) upT_at hz.2, Or.inl (Or.inr (mvH (k := 202) (c := 0) rfl (fun t ht => upT_ne ht) (by rw [upT_at]; rfl) (by decide) (by decide +kernel) q4))⟩

set_option maxRecDepth 100000 in
theorem g_law_printed_R1_y40 {l : Launch} {Ls : Nat} {xs : Nat → Int32} {c18 : Blk} {τ : Nat → List (Option Nat)} {h : PH} {j : Nat} (hΦ : Φ τ) (hz : RR τ) (hj : 6 * j + 6 ≤ Ls) (hL : Ls ≤ 3072) (hh : all2 (gC ρ0 τ) HL_R1 h) (K : ∀ (τ2 : Nat → List (Option Nat)) (h2 : PH), Φ τ2 → HH τ2 h2 → c18 [some (.inr (some (.inr []))), some (.inr (some (.inl 0))), some (.inr (some (.inl 55))), some (.inl (f_add (nI (6 * j)) 6))] [] h2) (g1 : 1 ≤ (xs (f_add (nI (6 * j)) 1).toNatClampNeg).toInt ∧ (xs (f_add (nI (6 * j)) 1).toNatClampNeg).toInt ≤ 10) (hs : 40 ≤ (decA (τ 202) 0).toInt ∧ (decA (τ 202) 0).toInt ≤ 260) : b_L_law_838 l Ls xs c18 [some (.inr (some (.inr []))), some (.inr (some (.inl 0))), some (.inr (some (.inl 55))), some (.inl (nI (6 * j)))] [] h := by
  have hh := fyH (k := 202) (c := 40) (d := 260) (E := HL_R1_y40) rfl hs.1 hs.2 (by decide +kernel) hh
  refine And.intro (sv (k := 1) hj hL (by omega)) ?_
  refine callT (τ := τ) (tm := tmO [9, 14, 19, 24, 27, 29, 32, 35, 54, 39, 40, 47]) (A := [.inl (1, 10), .inr (.inr (some (.inl 0)))]) (H := HL_R1_y40) (Ts := [([.inl (-2147483648, 2147483647)], HL_R1_w40)]) hΦ s_X11_printed_y40 ⟨⟨_, rfl, g1⟩, rfl, trivial⟩ hh (by decide +kernel) (fun T hT st h1 q1 q2 => ?_)
  cases List.mem_singleton.mp hT
  obtain ⟨v, rfl, _⟩ := st1 q1
  refine And.intro (sv (k := 1) hj hL (by omega)) ?_
  refine callT (τ := τ) (tm := tmO [56, 57, 58, 60, 61, 62, 63, 65, 66, 67, 68, 69, 70, 71, 72, 73, 74, 75, 76, 77, 78, 79, 80, 81, 82, 83, 84, 85, 86]) (A := [.inl (1, 10), .inr (.inr (some (.inl 55)))]) (H := HL_R1_w40) (Ts := [([.inl (-2147483648, 2147483647)], HL_R1_z0)]) hΦ s_X12_printed_y40 ⟨⟨_, rfl, g1⟩, rfl, trivial⟩ q2 (by decide +kernel) (fun T hT st h2 q3 q4 => ?_)
  cases List.mem_singleton.mp hT
  obtain ⟨w, rfl, _⟩ := st1 q3
  exact K (upT τ 202 0) h2 hΦ ⟨RR_up 0 (by omega) upT_at hz.2, Or.inl (Or.inr (mvH (k := 202) (c := 0) rfl (fun t ht => upT_ne ht) (by rw [upT_at]; rfl) (by decide) (by decide +kernel) q4))⟩

set_option maxRecDepth 100000 in
theorem g_law_printed_R1_n {l : Launch} {Ls : Nat} {xs : Nat → Int32} {c18 : Blk} {τ : Nat → List (Option Nat)} {h : PH} {j : Nat} (hΦ : Φ τ) (hz : RR τ) (hj : 6 * j + 6 ≤ Ls) (hL : Ls ≤ 3072) (hh : all2 (gC ρ0 τ) HL_R1 h) (K : ∀ (τ2 : Nat → List (Option Nat)) (h2 : PH), Φ τ2 → HH τ2 h2 → c18 [some (.inr (some (.inr []))), some (.inr (some (.inl 0))), some (.inr (some (.inl 55))), some (.inl (f_add (nI (6 * j)) 6))] [] h2) (hN : ¬ nd_printed (xs (f_add (nI (6 * j)) 1).toNatClampNeg) (decA (τ 202) 0)) : b_L_law_838 l Ls xs c18 [some (.inr (some (.inr []))), some (.inr (some (.inl 0))), some (.inr (some (.inl 55))), some (.inl (nI (6 * j)))] [] h := by
  refine And.intro (sv (k := 1) hj hL (by omega)) ?_
  refine callSame (τ := τ) (xs := [(xs (f_add (nI (6 * j)) 1).toNatClampNeg)]) (v := -1) (rest := []) (a := 0) (ci := 10) (tm := tmO [9, 14, 19, 24, 27, 29, 32, 35, 54, 39, 40, 47]) (H := HL_R1) hΦ hN i_nprintedC hh (fun K h => h) rfl rfl rfl (by decide +kernel) ?_
  refine And.intro (sv (k := 1) hj hL (by omega)) ?_
  refine callSame (τ := τ) (xs := [(xs (f_add (nI (6 * j)) 1).toNatClampNeg)]) (v := -1) (rest := []) (a := 55) (ci := 11) (tm := tmO [56, 57, 58, 60, 61, 62, 63, 65, 66, 67, 68, 69, 70, 71, 72, 73, 74, 75, 76, 77, 78, 79, 80, 81, 82, 83, 84, 85, 86]) (H := HL_R1) hΦ hN i_nprintedR hh (fun K h => h) rfl rfl rfl (by decide +kernel) ?_
  exact K τ h hΦ ⟨hz, Or.inl (Or.inr hh)⟩

theorem g_law_printed_R1 {l : Launch} {Ls : Nat} {xs : Nat → Int32} {c18 : Blk} {τ : Nat → List (Option Nat)} {h : PH} {j : Nat} (hΦ : Φ τ) (hz : RR τ) (hj : 6 * j + 6 ≤ Ls) (hL : Ls ≤ 3072) (hh : all2 (gC ρ0 τ) HL_R1 h) (K : ∀ (τ2 : Nat → List (Option Nat)) (h2 : PH), Φ τ2 → HH τ2 h2 → c18 [some (.inr (some (.inr []))), some (.inr (some (.inl 0))), some (.inr (some (.inl 55))), some (.inl (f_add (nI (6 * j)) 6))] [] h2) : b_L_law_838 l Ls xs c18 [some (.inr (some (.inr []))), some (.inr (some (.inl 0))), some (.inr (some (.inl 55))), some (.inl (nI (6 * j)))] [] h := by
  by_cases hN : nd_printed (xs (f_add (nI (6 * j)) 1).toNatClampNeg) (decA (τ 202) 0)
  rotate_left
  · exact g_law_printed_R1_n hΦ hz hj hL hh K hN
  obtain ⟨q, hq, hs⟩ := hz.1
  have p1 : (1 : Int) ≤ (xs (f_add (nI (6 * j)) 1).toNatClampNeg).toInt ∧ (xs (f_add (nI (6 * j)) 1).toNatClampNeg).toInt ≤ 10 := ⟨ge32 hN.1.1, ge32 hN.1.2⟩
  have ps : 3 * (xs (f_add (nI (6 * j)) 1).toNatClampNeg).toInt ≤ (decA (τ 202) 0).toInt := by
    have z := ge32 hN.2
    obtain ⟨n, n_, e⟩ := rng_n (x := (xs (f_add (nI (6 * j)) 1).toNatClampNeg)) (k := 10) (by omega) (by omega)
    rw [e] at z ⊢
    rw [show f_mul 3 (nI n) = nI (3 * n) from nI_mul 3 n, nI_toInt (by omega)] at z
    rw [nI_toInt (by omega)]
    omega
  by_cases c_20 : (xs (f_add (nI (6 * j)) 1).toNatClampNeg).toInt ≤ 6
  · exact g_law_printed_R1_y20 hΦ hz hj hL hh K ⟨by omega, by omega⟩ ⟨by omega, by omega⟩
  exact g_law_printed_R1_y40 hΦ hz hj hL hh K ⟨by omega, by omega⟩ ⟨by omega, by omega⟩

set_option maxRecDepth 100000 in
theorem g_law_ship_R1_y20 {l : Launch} {Ls : Nat} {xs : Nat → Int32} {c18 : Blk} {τ : Nat → List (Option Nat)} {h : PH} {j : Nat} (hΦ : Φ τ) (hz : RR τ) (hj : 6 * j + 6 ≤ Ls) (hL : Ls ≤ 3072) (hh : all2 (gC ρ0 τ) HL_R1 h) (K : ∀ (τ2 : Nat → List (Option Nat)) (h2 : PH), Φ τ2 → HH τ2 h2 → c18 [some (.inr (some (.inr []))), some (.inr (some (.inl 0))), some (.inr (some (.inl 55))), some (.inl (f_add (nI (6 * j)) 6))] [] h2) (g1 : 1 ≤ (xs (f_add (nI (6 * j)) 1).toNatClampNeg).toInt ∧ (xs (f_add (nI (6 * j)) 1).toNatClampNeg).toInt ≤ 10) (g2 : 0 ≤ (xs (f_add (nI (6 * j)) 2).toNatClampNeg).toInt ∧ (xs (f_add (nI (6 * j)) 2).toNatClampNeg).toInt ≤ 1) (hs : 20 ≤ (decA (τ 202) 0).toInt ∧ (decA (τ 202) 0).toInt ≤ 260) : b_L_law_861 l Ls xs c18 [some (.inr (some (.inr []))), some (.inr (some (.inl 0))), some (.inr (some (.inl 55))), some (.inl (nI (6 * j)))] [] h := by
  have hh := fyH (k := 202) (c := 20) (d := 260) (E := HL_R1_y20) rfl hs.1 hs.2 (by decide +kernel) hh
  refine And.intro (sv (k := 1) hj hL (by omega)) ?_
  refine And.intro (sv (k := 2) hj hL (by omega)) ?_
  refine callT (τ := τ) (tm := tmO [3, 9, 14, 19, 24, 27, 32, 35, 54, 39, 40, 47]) (A := [.inl (0, 1), .inl (1, 10), .inr (.inr (some (.inl 0)))]) (H := HL_R1_y20) (Ts := [([.inl (-2147483648, 2147483647)], HL_R1_w20)]) hΦ s_X11_ship_y20 ⟨⟨_, rfl, g2⟩, ⟨_, rfl, g1⟩, rfl, trivial⟩ hh (by decide +kernel) (fun T hT st h1 q1 q2 => ?_)
  cases List.mem_singleton.mp hT
  obtain ⟨v, rfl, _⟩ := st1 q1
  refine And.intro (sv (k := 1) hj hL (by omega)) ?_
  refine And.intro (sv (k := 2) hj hL (by omega)) ?_
  refine callT (τ := τ) (tm := tmO [56, 57, 58, 59, 60, 61, 62, 63, 65, 66, 67, 68, 69, 70, 71, 72, 73, 74, 75, 76, 77, 78, 79, 80, 81, 82, 83, 84, 85, 86]) (A := [.inl (0, 1), .inl (1, 10), .inr (.inr (some (.inl 55)))]) (H := HL_R1_w20) (Ts := [([.inl (-2147483648, 2147483647)], HL_R1_z0)]) hΦ s_X12_ship_y20 ⟨⟨_, rfl, g2⟩, ⟨_, rfl, g1⟩, rfl, trivial⟩ q2 (by decide +kernel) (fun T hT st h2 q3 q4 => ?_)
  cases List.mem_singleton.mp hT
  obtain ⟨w, rfl, _⟩ := st1 q3
  exact K (upT τ 202 0) h2 hΦ ⟨RR_up 0 (by omega) upT_at hz.2, Or.inl (Or.inr (mvH (k := 202) (c := 0) rfl (fun t ht => upT_ne ht) (by rw [upT_at]; rfl) (by decide) (by decide +kernel) q4))⟩

set_option maxRecDepth 100000 in
theorem g_law_ship_R1_n {l : Launch} {Ls : Nat} {xs : Nat → Int32} {c18 : Blk} {τ : Nat → List (Option Nat)} {h : PH} {j : Nat} (hΦ : Φ τ) (hz : RR τ) (hj : 6 * j + 6 ≤ Ls) (hL : Ls ≤ 3072) (hh : all2 (gC ρ0 τ) HL_R1 h) (K : ∀ (τ2 : Nat → List (Option Nat)) (h2 : PH), Φ τ2 → HH τ2 h2 → c18 [some (.inr (some (.inr []))), some (.inr (some (.inl 0))), some (.inr (some (.inl 55))), some (.inl (f_add (nI (6 * j)) 6))] [] h2) (hN : ¬ nd_ship (xs (f_add (nI (6 * j)) 1).toNatClampNeg) (xs (f_add (nI (6 * j)) 2).toNatClampNeg) (decA (τ 202) 0)) : b_L_law_861 l Ls xs c18 [some (.inr (some (.inr []))), some (.inr (some (.inl 0))), some (.inr (some (.inl 55))), some (.inl (nI (6 * j)))] [] h := by
  refine And.intro (sv (k := 1) hj hL (by omega)) ?_
  refine And.intro (sv (k := 2) hj hL (by omega)) ?_
  refine callSame (τ := τ) (xs := [(xs (f_add (nI (6 * j)) 1).toNatClampNeg), (xs (f_add (nI (6 * j)) 2).toNatClampNeg)]) (v := -1) (rest := []) (a := 0) (ci := 10) (tm := tmO [3, 9, 14, 19, 24, 27, 32, 35, 54, 39, 40, 47]) (H := HL_R1) hΦ hN i_nshipC hh (fun K h => h) rfl rfl rfl (by decide +kernel) ?_
  refine And.intro (sv (k := 1) hj hL (by omega)) ?_
  refine And.intro (sv (k := 2) hj hL (by omega)) ?_
  refine callSame (τ := τ) (xs := [(xs (f_add (nI (6 * j)) 1).toNatClampNeg), (xs (f_add (nI (6 * j)) 2).toNatClampNeg)]) (v := -1) (rest := []) (a := 55) (ci := 11) (tm := tmO [56, 57, 58, 59, 60, 61, 62, 63, 65, 66, 67, 68, 69, 70, 71, 72, 73, 74, 75, 76, 77, 78, 79, 80, 81, 82, 83, 84, 85, 86]) (H := HL_R1) hΦ hN i_nshipR hh (fun K h => h) rfl rfl rfl (by decide +kernel) ?_
  exact K τ h hΦ ⟨hz, Or.inl (Or.inr hh)⟩

theorem g_law_ship_R1 {l : Launch} {Ls : Nat} {xs : Nat → Int32} {c18 : Blk} {τ : Nat → List (Option Nat)} {h : PH} {j : Nat} (hΦ : Φ τ) (hz : RR τ) (hj : 6 * j + 6 ≤ Ls) (hL : Ls ≤ 3072) (hh : all2 (gC ρ0 τ) HL_R1 h) (K : ∀ (τ2 : Nat → List (Option Nat)) (h2 : PH), Φ τ2 → HH τ2 h2 → c18 [some (.inr (some (.inr []))), some (.inr (some (.inl 0))), some (.inr (some (.inl 55))), some (.inl (f_add (nI (6 * j)) 6))] [] h2) : b_L_law_861 l Ls xs c18 [some (.inr (some (.inr []))), some (.inr (some (.inl 0))), some (.inr (some (.inl 55))), some (.inl (nI (6 * j)))] [] h := by
  by_cases hN : nd_ship (xs (f_add (nI (6 * j)) 1).toNatClampNeg) (xs (f_add (nI (6 * j)) 2).toNatClampNeg) (decA (τ 202) 0)
  rotate_left
  · exact g_law_ship_R1_n hΦ hz hj hL hh K hN
  obtain ⟨q, hq, hs⟩ := hz.1
  have p1 : (1 : Int) ≤ (xs (f_add (nI (6 * j)) 1).toNatClampNeg).toInt ∧ (xs (f_add (nI (6 * j)) 1).toNatClampNeg).toInt ≤ 10 := ⟨ge32 hN.1.1, ge32 hN.1.2⟩
  have p2 : (0 : Int) ≤ (xs (f_add (nI (6 * j)) 2).toNatClampNeg).toInt ∧ (xs (f_add (nI (6 * j)) 2).toNatClampNeg).toInt ≤ 1 := ⟨ge32 hN.2.1.1, ge32 hN.2.1.2⟩
  have ps : (xs (f_add (nI (6 * j)) 1).toNatClampNeg).toInt ≤ (decA (τ 202) 0).toInt := ge32 hN.2.2
  exact g_law_ship_R1_y20 hΦ hz hj hL hh K ⟨by omega, by omega⟩ ⟨by omega, by omega⟩ ⟨by omega, by omega⟩

set_option maxRecDepth 100000 in
theorem g_law_mule_R1_y20 {l : Launch} {Ls : Nat} {xs : Nat → Int32} {c18 : Blk} {τ : Nat → List (Option Nat)} {h : PH} {j : Nat} (hΦ : Φ τ) (hz : RR τ) (hj : 6 * j + 6 ≤ Ls) (hL : Ls ≤ 3072) (hh : all2 (gC ρ0 τ) HL_R1 h) (K : ∀ (τ2 : Nat → List (Option Nat)) (h2 : PH), Φ τ2 → HH τ2 h2 → c18 [some (.inr (some (.inr []))), some (.inr (some (.inl 0))), some (.inr (some (.inl 55))), some (.inl (f_add (nI (6 * j)) 6))] [] h2) (g1 : 1 ≤ (xs (f_add (nI (6 * j)) 1).toNatClampNeg).toInt ∧ (xs (f_add (nI (6 * j)) 1).toNatClampNeg).toInt ≤ 12) (g2 : 0 ≤ (xs (f_add (nI (6 * j)) 2).toNatClampNeg).toInt ∧ (xs (f_add (nI (6 * j)) 2).toNatClampNeg).toInt ≤ 3060) (g3 : 0 ≤ (xs (f_add (nI (6 * j)) 3).toNatClampNeg).toInt ∧ (xs (f_add (nI (6 * j)) 3).toNatClampNeg).toInt ≤ 2) (hs : 20 ≤ (decA (τ 202) 0).toInt ∧ (decA (τ 202) 0).toInt ≤ 260) : b_L_law_894 l Ls xs c18 [some (.inr (some (.inr []))), some (.inr (some (.inl 0))), some (.inr (some (.inl 55))), some (.inl (nI (6 * j)))] [] h := by
  have hh := fyH (k := 202) (c := 20) (d := 260) (E := HL_R1_y20) rfl hs.1 hs.2 (by decide +kernel) hh
  refine And.intro (sv (k := 1) hj hL (by omega)) ?_
  refine And.intro (sv (k := 2) hj hL (by omega)) ?_
  refine And.intro (sv (k := 3) hj hL (by omega)) ?_
  refine callT (τ := τ) (tm := tmO [3, 9, 14, 19, 24, 27, 32, 35, 54, 39, 40, 47]) (A := [.inl (0, 2), .inl (0, 3060), .inl (1, 12), .inr (.inr (some (.inl 0)))]) (H := HL_R1_y20) (Ts := [([.inl (-2147483648, 2147483647)], HL_R1_w20)]) hΦ s_X11_mule_y20 ⟨⟨_, rfl, g3⟩, ⟨_, rfl, g2⟩, ⟨_, rfl, g1⟩, rfl, trivial⟩ hh (by decide +kernel) (fun T hT st h1 q1 q2 => ?_)
  cases List.mem_singleton.mp hT
  obtain ⟨v, rfl, _⟩ := st1 q1
  refine And.intro (sv (k := 1) hj hL (by omega)) ?_
  refine And.intro (sv (k := 2) hj hL (by omega)) ?_
  refine And.intro (sv (k := 3) hj hL (by omega)) ?_
  refine callT (τ := τ) (tm := tmO [56, 57, 58, 59, 60, 61, 62, 63, 65, 66, 67, 68, 69, 70, 71, 72, 73, 74, 75, 76, 77, 78, 79, 80, 81, 82, 83, 84, 85, 86]) (A := [.inl (0, 2), .inl (0, 3060), .inl (1, 12), .inr (.inr (some (.inl 55)))]) (H := HL_R1_w20) (Ts := [([.inl (-2147483648, 2147483647)], HL_R1_z0)]) hΦ s_X12_mule_y20 ⟨⟨_, rfl, g3⟩, ⟨_, rfl, g2⟩, ⟨_, rfl, g1⟩, rfl, trivial⟩ q2 (by decide +kernel) (fun T hT st h2 q3 q4 => ?_)
  cases List.mem_singleton.mp hT
  obtain ⟨w, rfl, _⟩ := st1 q3
  exact K (upT τ 202 0) h2 hΦ ⟨RR_up 0 (by omega) upT_at hz.2, Or.inl (Or.inr (mvH (k := 202) (c := 0) rfl (fun t ht => upT_ne ht) (by rw [upT_at]; rfl) (by decide) (by decide +kernel) q4))⟩

set_option maxRecDepth 100000 in
theorem g_law_mule_R1_n {l : Launch} {Ls : Nat} {xs : Nat → Int32} {c18 : Blk} {τ : Nat → List (Option Nat)} {h : PH} {j : Nat} (hΦ : Φ τ) (hz : RR τ) (hj : 6 * j + 6 ≤ Ls) (hL : Ls ≤ 3072) (hh : all2 (gC ρ0 τ) HL_R1 h) (K : ∀ (τ2 : Nat → List (Option Nat)) (h2 : PH), Φ τ2 → HH τ2 h2 → c18 [some (.inr (some (.inr []))), some (.inr (some (.inl 0))), some (.inr (some (.inl 55))), some (.inl (f_add (nI (6 * j)) 6))] [] h2) (hN : ¬ nd_mule (xs (f_add (nI (6 * j)) 1).toNatClampNeg) (xs (f_add (nI (6 * j)) 2).toNatClampNeg) (xs (f_add (nI (6 * j)) 3).toNatClampNeg) (decA (τ 202) 0)) : b_L_law_894 l Ls xs c18 [some (.inr (some (.inr []))), some (.inr (some (.inl 0))), some (.inr (some (.inl 55))), some (.inl (nI (6 * j)))] [] h := by
  refine And.intro (sv (k := 1) hj hL (by omega)) ?_
  refine And.intro (sv (k := 2) hj hL (by omega)) ?_
  refine And.intro (sv (k := 3) hj hL (by omega)) ?_
  refine callSame (τ := τ) (xs := [(xs (f_add (nI (6 * j)) 1).toNatClampNeg), (xs (f_add (nI (6 * j)) 2).toNatClampNeg), (xs (f_add (nI (6 * j)) 3).toNatClampNeg)]) (v := -1) (rest := []) (a := 0) (ci := 10) (tm := tmO [3, 9, 14, 19, 24, 27, 32, 35, 54, 39, 40, 47]) (H := HL_R1) hΦ hN i_nmuleC hh (fun K h => h) rfl rfl rfl (by decide +kernel) ?_
  refine And.intro (sv (k := 1) hj hL (by omega)) ?_
  refine And.intro (sv (k := 2) hj hL (by omega)) ?_
  refine And.intro (sv (k := 3) hj hL (by omega)) ?_
  refine callSame (τ := τ) (xs := [(xs (f_add (nI (6 * j)) 1).toNatClampNeg), (xs (f_add (nI (6 * j)) 2).toNatClampNeg), (xs (f_add (nI (6 * j)) 3).toNatClampNeg)]) (v := -1) (rest := []) (a := 55) (ci := 11) (tm := tmO [56, 57, 58, 59, 60, 61, 62, 63, 65, 66, 67, 68, 69, 70, 71, 72, 73, 74, 75, 76, 77, 78, 79, 80, 81, 82, 83, 84, 85, 86]) (H := HL_R1) hΦ hN i_nmuleR hh (fun K h => h) rfl rfl rfl (by decide +kernel) ?_
  exact K τ h hΦ ⟨hz, Or.inl (Or.inr hh)⟩

theorem g_law_mule_R1 {l : Launch} {Ls : Nat} {xs : Nat → Int32} {c18 : Blk} {τ : Nat → List (Option Nat)} {h : PH} {j : Nat} (hΦ : Φ τ) (hz : RR τ) (hj : 6 * j + 6 ≤ Ls) (hL : Ls ≤ 3072) (hh : all2 (gC ρ0 τ) HL_R1 h) (K : ∀ (τ2 : Nat → List (Option Nat)) (h2 : PH), Φ τ2 → HH τ2 h2 → c18 [some (.inr (some (.inr []))), some (.inr (some (.inl 0))), some (.inr (some (.inl 55))), some (.inl (f_add (nI (6 * j)) 6))] [] h2) : b_L_law_894 l Ls xs c18 [some (.inr (some (.inr []))), some (.inr (some (.inl 0))), some (.inr (some (.inl 55))), some (.inl (nI (6 * j)))] [] h := by
  by_cases hN : nd_mule (xs (f_add (nI (6 * j)) 1).toNatClampNeg) (xs (f_add (nI (6 * j)) 2).toNatClampNeg) (xs (f_add (nI (6 * j)) 3).toNatClampNeg) (decA (τ 202) 0)
  rotate_left
  · exact g_law_mule_R1_n hΦ hz hj hL hh K hN
  obtain ⟨q, hq, hs⟩ := hz.1
  have p1 : (1 : Int) ≤ (xs (f_add (nI (6 * j)) 1).toNatClampNeg).toInt ∧ (xs (f_add (nI (6 * j)) 1).toNatClampNeg).toInt ≤ 12 := ⟨ge32 hN.1.1, ge32 hN.1.2⟩
  have p2 : (0 : Int) ≤ (xs (f_add (nI (6 * j)) 2).toNatClampNeg).toInt ∧ (xs (f_add (nI (6 * j)) 2).toNatClampNeg).toInt ≤ 3060 := ⟨ge32 hN.2.1.1, ge32 hN.2.1.2⟩
  have p3 : (0 : Int) ≤ (xs (f_add (nI (6 * j)) 3).toNatClampNeg).toInt ∧ (xs (f_add (nI (6 * j)) 3).toNatClampNeg).toInt ≤ 2 := ⟨ge32 hN.2.2.1.1, ge32 hN.2.2.1.2⟩
  have ps : (xs (f_add (nI (6 * j)) 1).toNatClampNeg).toInt ≤ (decA (τ 202) 0).toInt := ge32 hN.2.2.2
  exact g_law_mule_R1_y20 hΦ hz hj hL hh K ⟨by omega, by omega⟩ ⟨by omega, by omega⟩ ⟨by omega, by omega⟩ ⟨by omega, by omega⟩

set_option maxRecDepth 100000 in
theorem g_law_marks_R1_y20 {l : Launch} {Ls : Nat} {xs : Nat → Int32} {c18 : Blk} {τ : Nat → List (Option Nat)} {h : PH} {j : Nat} (hΦ : Φ τ) (hz : RR τ) (hj : 6 * j + 6 ≤ Ls) (hL : Ls ≤ 3072) (hh : all2 (gC ρ0 τ) HL_R1 h) (K : ∀ (τ2 : Nat → List (Option Nat)) (h2 : PH), Φ τ2 → HH τ2 h2 → c18 [some (.inr (some (.inr []))), some (.inr (some (.inl 0))), some (.inr (some (.inl 55))), some (.inl (f_add (nI (6 * j)) 6))] [] h2) (g1 : 1 ≤ (xs (f_add (nI (6 * j)) 1).toNatClampNeg).toInt ∧ (xs (f_add (nI (6 * j)) 1).toNatClampNeg).toInt ≤ 5) (g2 : 1 ≤ (xs (f_add (nI (6 * j)) 2).toNatClampNeg).toInt ∧ (xs (f_add (nI (6 * j)) 2).toNatClampNeg).toInt ≤ 6) (hs : 20 ≤ (decA (τ 202) 0).toInt ∧ (decA (τ 202) 0).toInt ≤ 260) : b_L_law_937 l Ls xs c18 [some (.inr (some (.inr []))), some (.inr (some (.inl 0))), some (.inr (some (.inl 55))), some (.inl (nI (6 * j)))] [] h := by
  have hh := fyH (k := 202) (c := 20) (d := 260) (E := HL_R1_y20) rfl hs.1 hs.2 (by decide +kernel) hh
  refine And.intro (sv (k := 1) hj hL (by omega)) ?_
  refine And.intro (sv (k := 2) hj hL (by omega)) ?_
  refine callT (τ := τ) (tm := tmO [3, 9, 14, 19, 24, 27, 32, 35, 54, 39, 40, 47]) (A := [.inl (1, 6), .inl (1, 5), .inr (.inr (some (.inl 0)))]) (H := HL_R1_y20) (Ts := [([.inl (-2147483648, 2147483647)], HL_R1_w20)]) hΦ s_X11_marks_y20 ⟨⟨_, rfl, g2⟩, ⟨_, rfl, g1⟩, rfl, trivial⟩ hh (by decide +kernel) (fun T hT st h1 q1 q2 => ?_)
  cases List.mem_singleton.mp hT
  obtain ⟨v, rfl, _⟩ := st1 q1
  refine And.intro (sv (k := 1) hj hL (by omega)) ?_
  refine And.intro (sv (k := 2) hj hL (by omega)) ?_
  refine callT (τ := τ) (tm := tmO [56, 57, 58, 59, 60, 61, 62, 63, 65, 66, 67, 68, 69, 70, 71, 72, 73, 74, 75, 76, 77, 78, 79, 80, 81, 82, 83, 84, 86]) (A := [.inl (1, 6), .inl (1, 5), .inr (.inr (some (.inl 55)))]) (H := HL_R1_w20) (Ts := [([.inl (-2147483648, 2147483647)], HL_R1_z0)]) hΦ s_X12_marks_y20 ⟨⟨_, rfl, g2⟩, ⟨_, rfl, g1⟩, rfl, trivial⟩ q2 (by decide +kernel) (fun T hT st h2 q3 q4 => ?_)
  cases List.mem_singleton.mp hT
  obtain ⟨w, rfl, _⟩ := st1 q3
  exact K (upT τ 202 0) h2 hΦ ⟨RR_up 0 (by omega) upT_at hz.2, Or.inl (Or.inr (mvH (k := 202) (c := 0) rfl (fun t ht => upT_ne ht) (by rw [upT_at]; rfl) (by decide) (by decide +kernel) q4))⟩

set_option maxRecDepth 100000 in
theorem g_law_marks_R1_n {l : Launch} {Ls : Nat} {xs : Nat → Int32} {c18 : Blk} {τ : Nat → List (Option Nat)} {h : PH} {j : Nat} (hΦ : Φ τ) (hz : RR τ) (hj : 6 * j + 6 ≤ Ls) (hL : Ls ≤ 3072) (hh : all2 (gC ρ0 τ) HL_R1 h) (K : ∀ (τ2 : Nat → List (Option Nat)) (h2 : PH), Φ τ2 → HH τ2 h2 → c18 [some (.inr (some (.inr []))), some (.inr (some (.inl 0))), some (.inr (some (.inl 55))), some (.inl (f_add (nI (6 * j)) 6))] [] h2) (hN : ¬ nd_marks (xs (f_add (nI (6 * j)) 1).toNatClampNeg) (xs (f_add (nI (6 * j)) 2).toNatClampNeg) (decA (τ 202) 0)) : b_L_law_937 l Ls xs c18 [some (.inr (some (.inr []))), some (.inr (some (.inl 0))), some (.inr (some (.inl 55))), some (.inl (nI (6 * j)))] [] h := by
  refine And.intro (sv (k := 1) hj hL (by omega)) ?_
  refine And.intro (sv (k := 2) hj hL (by omega)) ?_
  refine callSame (τ := τ) (xs := [(xs (f_add (nI (6 * j)) 1).toNatClampNeg), (xs (f_add (nI (6 * j)) 2).toNatClampNeg)]) (v := -1) (rest := []) (a := 0) (ci := 10) (tm := tmO [3, 9, 14, 19, 24, 27, 32, 35, 54, 39, 40, 47]) (H := HL_R1) hΦ hN i_nmarksC hh (fun K h => h) rfl rfl rfl (by decide +kernel) ?_
  refine And.intro (sv (k := 1) hj hL (by omega)) ?_
  refine And.intro (sv (k := 2) hj hL (by omega)) ?_
  refine callSame (τ := τ) (xs := [(xs (f_add (nI (6 * j)) 1).toNatClampNeg), (xs (f_add (nI (6 * j)) 2).toNatClampNeg)]) (v := -1) (rest := []) (a := 55) (ci := 11) (tm := tmO [56, 57, 58, 59, 60, 61, 62, 63, 65, 66, 67, 68, 69, 70, 71, 72, 73, 74, 75, 76, 77, 78, 79, 80, 81, 82, 83, 84, 86]) (H := HL_R1) hΦ hN i_nmarksR hh (fun K h => h) rfl rfl rfl (by decide +kernel) ?_
  exact K τ h hΦ ⟨hz, Or.inl (Or.inr hh)⟩

theorem g_law_marks_R1 {l : Launch} {Ls : Nat} {xs : Nat → Int32} {c18 : Blk} {τ : Nat → List (Option Nat)} {h : PH} {j : Nat} (hΦ : Φ τ) (hz : RR τ) (hj : 6 * j + 6 ≤ Ls) (hL : Ls ≤ 3072) (hh : all2 (gC ρ0 τ) HL_R1 h) (K : ∀ (τ2 : Nat → List (Option Nat)) (h2 : PH), Φ τ2 → HH τ2 h2 → c18 [some (.inr (some (.inr []))), some (.inr (some (.inl 0))), some (.inr (some (.inl 55))), some (.inl (f_add (nI (6 * j)) 6))] [] h2) : b_L_law_937 l Ls xs c18 [some (.inr (some (.inr []))), some (.inr (some (.inl 0))), some (.inr (some (.inl 55))), some (.inl (nI (6 * j)))] [] h := by
  by_cases hN : nd_marks (xs (f_add (nI (6 * j)) 1).toNatClampNeg) (xs (f_add (nI (6 * j)) 2).toNatClampNeg) (decA (τ 202) 0)
  rotate_left
  · exact g_law_marks_R1_n hΦ hz hj hL hh K hN
  obtain ⟨q, hq, hs⟩ := hz.1
  have p1 : (1 : Int) ≤ (xs (f_add (nI (6 * j)) 1).toNatClampNeg).toInt ∧ (xs (f_add (nI (6 * j)) 1).toNatClampNeg).toInt ≤ 5 := ⟨ge32 hN.1.1, ge32 hN.1.2⟩
  have p2 : (1 : Int) ≤ (xs (f_add (nI (6 * j)) 2).toNatClampNeg).toInt ∧ (xs (f_add (nI (6 * j)) 2).toNatClampNeg).toInt ≤ 6 := ⟨ge32 hN.2.1.1, ge32 hN.2.1.2⟩
  have ps : (xs (f_add (nI (6 * j)) 1).toNatClampNeg).toInt ≤ (decA (τ 202) 0).toInt := ge32 hN.2.2
  exact g_law_marks_R1_y20 hΦ hz hj hL hh K ⟨by omega, by omega⟩ ⟨by omega, by omega⟩ ⟨by omega, by omega⟩

set_option maxRecDepth 100000 in
theorem g_law_franked_R1_y20 {l : Launch} {Ls : Nat} {xs : Nat → Int32} {c18 : Blk} {τ : Nat → List (Option Nat)} {h : PH} {j : Nat} (hΦ : Φ τ) (hz : RR τ) (hj : 6 * j + 6 ≤ Ls) (hL : Ls ≤ 3072) (hh : all2 (gC ρ0 τ) HL_R1 h) (K : ∀ (τ2 : Nat → List (Option Nat)) (h2 : PH), Φ τ2 → HH τ2 h2 → c18 [some (.inr (some (.inr []))), some (.inr (some (.inl 0))), some (.inr (some (.inl 55))), some (.inl (f_add (nI (6 * j)) 6))] [] h2) (g1 : 1 ≤ (xs (f_add (nI (6 * j)) 1).toNatClampNeg).toInt ∧ (xs (f_add (nI (6 * j)) 1).toNatClampNeg).toInt ≤ 5) (g2 : 1 ≤ (xs (f_add (nI (6 * j)) 2).toNatClampNeg).toInt ∧ (xs (f_add (nI (6 * j)) 2).toNatClampNeg).toInt ≤ 600) (hs : 20 ≤ (decA (τ 202) 0).toInt ∧ (decA (τ 202) 0).toInt ≤ 260) : b_L_law_970 l Ls xs c18 [some (.inr (some (.inr []))), some (.inr (some (.inl 0))), some (.inr (some (.inl 55))), some (.inl (nI (6 * j)))] [] h := by
  have hh := fyH (k := 202) (c := 20) (d := 260) (E := HL_R1_y20) rfl hs.1 hs.2 (by decide +kernel) hh
  refine And.intro (sv (k := 1) hj hL (by omega)) ?_
  refine And.intro (sv (k := 2) hj hL (by omega)) ?_
  refine callT (τ := τ) (tm := tmO [3, 9, 14, 19, 24, 27, 32, 35, 54, 39, 40, 47]) (A := [.inl (1, 600), .inl (1, 5), .inr (.inr (some (.inl 0)))]) (H := HL_R1_y20) (Ts := [([.inl (-2147483648, 2147483647)], HL_R1_w20)]) hΦ s_X11_franked_y20 ⟨⟨_, rfl, g2⟩, ⟨_, rfl, g1⟩, rfl, trivial⟩ hh (by decide +kernel) (fun T hT st h1 q1 q2 => ?_)
  cases List.mem_singleton.mp hT
  obtain ⟨v, rfl, _⟩ := st1 q1
  refine And.intro (sv (k := 1) hj hL (by omega)) ?_
  refine And.intro (sv (k := 2) hj hL (by omega)) ?_
  refine callT (τ := τ) (tm := tmO [56, 57, 58, 59, 60, 61, 62, 63, 65, 66, 67, 68, 69, 70, 71, 72, 73, 74, 75, 76, 77, 78, 79, 80, 81, 82, 83, 84, 86]) (A := [.inl (1, 600), .inl (1, 5), .inr (.inr (some (.inl 55)))]) (H := HL_R1_w20) (Ts := [([.inl (-2147483648, 2147483647)], HL_R1_z0)]) hΦ s_X12_franked_y20 ⟨⟨_, rfl, g2⟩, ⟨_, rfl, g1⟩, rfl, trivial⟩ q2 (by decide +kernel) (fun T hT st h2 q3 q4 => ?_)
  cases List.mem_singleton.mp hT
  obtain ⟨w, rfl, _⟩ := st1 q3
  exact K (upT τ 202 0) h2 hΦ ⟨RR_up 0 (by omega) upT_at hz.2, Or.inl (Or.inr (mvH (k := 202) (c := 0) rfl (fun t ht => upT_ne ht) (by rw [upT_at]; rfl) (by decide) (by decide +kernel) q4))⟩

set_option maxRecDepth 100000 in
theorem g_law_franked_R1_n {l : Launch} {Ls : Nat} {xs : Nat → Int32} {c18 : Blk} {τ : Nat → List (Option Nat)} {h : PH} {j : Nat} (hΦ : Φ τ) (hz : RR τ) (hj : 6 * j + 6 ≤ Ls) (hL : Ls ≤ 3072) (hh : all2 (gC ρ0 τ) HL_R1 h) (K : ∀ (τ2 : Nat → List (Option Nat)) (h2 : PH), Φ τ2 → HH τ2 h2 → c18 [some (.inr (some (.inr []))), some (.inr (some (.inl 0))), some (.inr (some (.inl 55))), some (.inl (f_add (nI (6 * j)) 6))] [] h2) (hN : ¬ nd_franked (xs (f_add (nI (6 * j)) 1).toNatClampNeg) (xs (f_add (nI (6 * j)) 2).toNatClampNeg) (decA (τ 202) 0)) : b_L_law_970 l Ls xs c18 [some (.inr (some (.inr []))), some (.inr (some (.inl 0))), some (.inr (some (.inl 55))), some (.inl (nI (6 * j)))] [] h := by
  refine And.intro (sv (k := 1) hj hL (by omega)) ?_
  refine And.intro (sv (k := 2) hj hL (by omega)) ?_
  refine callSame (τ := τ) (xs := [(xs (f_add (nI (6 * j)) 1).toNatClampNeg), (xs (f_add (nI (6 * j)) 2).toNatClampNeg)]) (v := -1) (rest := []) (a := 0) (ci := 10) (tm := tmO [3, 9, 14, 19, 24, 27, 32, 35, 54, 39, 40, 47]) (H := HL_R1) hΦ hN i_nfrankedC hh (fun K h => h) rfl rfl rfl (by decide +kernel) ?_
  refine And.intro (sv (k := 1) hj hL (by omega)) ?_
  refine And.intro (sv (k := 2) hj hL (by omega)) ?_
  refine callSame (τ := τ) (xs := [(xs (f_add (nI (6 * j)) 1).toNatClampNeg), (xs (f_add (nI (6 * j)) 2).toNatClampNeg)]) (v := -1) (rest := []) (a := 55) (ci := 11) (tm := tmO [56, 57, 58, 59, 60, 61, 62, 63, 65, 66, 67, 68, 69, 70, 71, 72, 73, 74, 75, 76, 77, 78, 79, 80, 81, 82, 83, 84, 86]) (H := HL_R1) hΦ hN i_nfrankedR hh (fun K h => h) rfl rfl rfl (by decide +kernel) ?_
  exact K τ h hΦ ⟨hz, Or.inl (Or.inr hh)⟩

theorem g_law_franked_R1 {l : Launch} {Ls : Nat} {xs : Nat → Int32} {c18 : Blk} {τ : Nat → List (Option Nat)} {h : PH} {j : Nat} (hΦ : Φ τ) (hz : RR τ) (hj : 6 * j + 6 ≤ Ls) (hL : Ls ≤ 3072) (hh : all2 (gC ρ0 τ) HL_R1 h) (K : ∀ (τ2 : Nat → List (Option Nat)) (h2 : PH), Φ τ2 → HH τ2 h2 → c18 [some (.inr (some (.inr []))), some (.inr (some (.inl 0))), some (.inr (some (.inl 55))), some (.inl (f_add (nI (6 * j)) 6))] [] h2) : b_L_law_970 l Ls xs c18 [some (.inr (some (.inr []))), some (.inr (some (.inl 0))), some (.inr (some (.inl 55))), some (.inl (nI (6 * j)))] [] h := by
  by_cases hN : nd_franked (xs (f_add (nI (6 * j)) 1).toNatClampNeg) (xs (f_add (nI (6 * j)) 2).toNatClampNeg) (decA (τ 202) 0)
  rotate_left
  · exact g_law_franked_R1_n hΦ hz hj hL hh K hN
  obtain ⟨q, hq, hs⟩ := hz.1
  have p1 : (1 : Int) ≤ (xs (f_add (nI (6 * j)) 1).toNatClampNeg).toInt ∧ (xs (f_add (nI (6 * j)) 1).toNatClampNeg).toInt ≤ 5 := ⟨ge32 hN.1.1, ge32 hN.1.2⟩
  have p2 : (1 : Int) ≤ (xs (f_add (nI (6 * j)) 2).toNatClampNeg).toInt ∧ (xs (f_add (nI (6 * j)) 2).toNatClampNeg).toInt ≤ 600 := ⟨ge32 hN.2.1.1, ge32 hN.2.1.2⟩
  have ps : (xs (f_add (nI (6 * j)) 1).toNatClampNeg).toInt ≤ (decA (τ 202) 0).toInt := ge32 hN.2.2
  exact g_law_franked_R1_y20 hΦ hz hj hL hh K ⟨by omega, by omega⟩ ⟨by omega, by omega⟩ ⟨by omega, by omega⟩

set_option maxRecDepth 100000 in
theorem g_law_exchange_R1_y2 {l : Launch} {Ls : Nat} {xs : Nat → Int32} {c18 : Blk} {τ : Nat → List (Option Nat)} {h : PH} {j : Nat} (hΦ : Φ τ) (hz : RR τ) (hj : 6 * j + 6 ≤ Ls) (hL : Ls ≤ 3072) (hh : all2 (gC ρ0 τ) HL_R1 h) (K : ∀ (τ2 : Nat → List (Option Nat)) (h2 : PH), Φ τ2 → HH τ2 h2 → c18 [some (.inr (some (.inr []))), some (.inr (some (.inl 0))), some (.inr (some (.inl 55))), some (.inl (f_add (nI (6 * j)) 6))] [] h2) (g1 : 2 ≤ (xs (f_add (nI (6 * j)) 1).toNatClampNeg).toInt ∧ (xs (f_add (nI (6 * j)) 1).toNatClampNeg).toInt ≤ 2) (g2 : 0 ≤ (xs (f_add (nI (6 * j)) 2).toNatClampNeg).toInt ∧ (xs (f_add (nI (6 * j)) 2).toNatClampNeg).toInt ≤ 1) (hs : 20 ≤ (decA (τ 202) 0).toInt ∧ (decA (τ 202) 0).toInt ≤ 260) : b_L_law_1003 l Ls xs c18 [some (.inr (some (.inr []))), some (.inr (some (.inl 0))), some (.inr (some (.inl 55))), some (.inl (nI (6 * j)))] [] h := by
  have hh := fyH (k := 202) (c := 20) (d := 260) (E := HL_R1_y20) rfl hs.1 hs.2 (by decide +kernel) hh
  refine And.intro (sv (k := 1) hj hL (by omega)) ?_
  refine And.intro (sv (k := 2) hj hL (by omega)) ?_
  refine callT (τ := τ) (tm := tmO [3, 9, 14, 19, 24, 27, 32, 35, 54, 39, 40, 47]) (A := [.inl (0, 1), .inl (2, 2), .inr (.inr (some (.inl 0)))]) (H := HL_R1_y20) (Ts := [([.inl (-2147483648, 2147483647)], HL_R1_w20)]) hΦ s_X11_exchange_y2 ⟨⟨_, rfl, g2⟩, ⟨_, rfl, g1⟩, rfl, trivial⟩ hh (by decide +kernel) (fun T hT st h1 q1 q2 => ?_)
  cases List.mem_singleton.mp hT
  obtain ⟨v, rfl, _⟩ := st1 q1
  refine And.intro (sv (k := 1) hj hL (by omega)) ?_
  refine And.intro (sv (k := 2) hj hL (by omega)) ?_
  refine callT (τ := τ) (tm := tmO [56, 57, 58, 59, 60, 61, 62, 63, 65, 66, 67, 68, 69, 70, 71, 72, 73, 74, 75, 76, 77, 78, 79, 80, 81, 82, 83, 84, 85]) (A := [.inl (0, 1), .inl (2, 2), .inr (.inr (some (.inl 55)))]) (H := HL_R1_w20) (Ts := [([.inl (-2147483648, 2147483647)], HL_R1_z0)]) hΦ s_X12_exchange_y2 ⟨⟨_, rfl, g2⟩, ⟨_, rfl, g1⟩, rfl, trivial⟩ q2 (by decide +kernel) (fun T hT st h2 q3 q4 => ?_)
  cases List.mem_singleton.mp hT
  obtain ⟨w, rfl, _⟩ := st1 q3
  exact K (upT τ 202 0) h2 hΦ ⟨RR_up 0 (by omega) upT_at hz.2, Or.inl (Or.inr (mvH (k := 202) (c := 0) rfl (fun t ht => upT_ne ht) (by rw [upT_at]; rfl) (by decide) (by decide +kernel) q4))⟩

set_option maxRecDepth 100000 in
theorem g_law_exchange_R1_y3 {l : Launch} {Ls : Nat} {xs : Nat → Int32} {c18 : Blk} {τ : Nat → List (Option Nat)} {h : PH} {j : Nat} (hΦ : Φ τ) (hz : RR τ) (hj : 6 * j + 6 ≤ Ls) (hL : Ls ≤ 3072) (hh : all2 (gC ρ0 τ) HL_R1 h) (K : ∀ (τ2 : Nat → List (Option Nat)) (h2 : PH), Φ τ2 → HH τ2 h2 → c18 [some (.inr (some (.inr []))), some (.inr (some (.inl 0))), some (.inr (some (.inl 55))), some (.inl (f_add (nI (6 * j)) 6))] [] h2) (g1 : 3 ≤ (xs (f_add (nI (6 * j)) 1).toNatClampNeg).toInt ∧ (xs (f_add (nI (6 * j)) 1).toNatClampNeg).toInt ≤ 3) (g2 : 0 ≤ (xs (f_add (nI (6 * j)) 2).toNatClampNeg).toInt ∧ (xs (f_add (nI (6 * j)) 2).toNatClampNeg).toInt ≤ 2) (hs : 20 ≤ (decA (τ 202) 0).toInt ∧ (decA (τ 202) 0).toInt ≤ 260) : b_L_law_1003 l Ls xs c18 [some (.inr (some (.inr []))), some (.inr (some (.inl 0))), some (.inr (some (.inl 55))), some (.inl (nI (6 * j)))] [] h := by
  have hh := fyH (k := 202) (c := 20) (d := 260) (E := HL_R1_y20) rfl hs.1 hs.2 (by decide +kernel) hh
  refine And.intro (sv (k := 1) hj hL (by omega)) ?_
  refine And.intro (sv (k := 2) hj hL (by omega)) ?_
  refine callT (τ := τ) (tm := tmO [3, 9, 14, 19, 24, 27, 32, 35, 54, 39, 40, 47]) (A := [.inl (0, 2), .inl (3, 3), .inr (.inr (some (.inl 0)))]) (H := HL_R1_y20) (Ts := [([.inl (-2147483648, 2147483647)], HL_R1_w20)]) hΦ s_X11_exchange_y3 ⟨⟨_, rfl, g2⟩, ⟨_, rfl, g1⟩, rfl, trivial⟩ hh (by decide +kernel) (fun T hT st h1 q1 q2 => ?_)
  cases List.mem_singleton.mp hT
  obtain ⟨v, rfl, _⟩ := st1 q1
  refine And.intro (sv (k := 1) hj hL (by omega)) ?_
  refine And.intro (sv (k := 2) hj hL (by omega)) ?_
  refine callT (τ := τ) (tm := tmO [56, 57, 58, 59, 60, 61, 62, 63, 65, 66, 67, 68, 69, 70, 71, 72, 73, 74, 75, 76, 77, 78, 79, 80, 81, 82, 83, 84, 85]) (A := [.inl (0, 2), .inl (3, 3), .inr (.inr (some (.inl 55)))]) (H := HL_R1_w20) (Ts := [([.inl (-2147483648, 2147483647)], HL_R1_z0)]) hΦ s_X12_exchange_y3 ⟨⟨_, rfl, g2⟩, ⟨_, rfl, g1⟩, rfl, trivial⟩ q2 (by decide +kernel) (fun T hT st h2 q3 q4 => ?_)
  cases List.mem_singleton.mp hT
  obtain ⟨w, rfl, _⟩ := st1 q3
  exact K (upT τ 202 0) h2 hΦ ⟨RR_up 0 (by omega) upT_at hz.2, Or.inl (Or.inr (mvH (k := 202) (c := 0) rfl (fun t ht => upT_ne ht) (by rw [upT_at]; rfl) (by decide) (by decide +kernel) q4))⟩

set_option maxRecDepth 100000 in
theorem g_law_exchange_R1_y4 {l : Launch} {Ls : Nat} {xs : Nat → Int32} {c18 : Blk} {τ : Nat → List (Option Nat)} {h : PH} {j : Nat} (hΦ : Φ τ) (hz : RR τ) (hj : 6 * j + 6 ≤ Ls) (hL : Ls ≤ 3072) (hh : all2 (gC ρ0 τ) HL_R1 h) (K : ∀ (τ2 : Nat → List (Option Nat)) (h2 : PH), Φ τ2 → HH τ2 h2 → c18 [some (.inr (some (.inr []))), some (.inr (some (.inl 0))), some (.inr (some (.inl 55))), some (.inl (f_add (nI (6 * j)) 6))] [] h2) (g1 : 4 ≤ (xs (f_add (nI (6 * j)) 1).toNatClampNeg).toInt ∧ (xs (f_add (nI (6 * j)) 1).toNatClampNeg).toInt ≤ 4) (g2 : 0 ≤ (xs (f_add (nI (6 * j)) 2).toNatClampNeg).toInt ∧ (xs (f_add (nI (6 * j)) 2).toNatClampNeg).toInt ≤ 3) (hs : 20 ≤ (decA (τ 202) 0).toInt ∧ (decA (τ 202) 0).toInt ≤ 260) : b_L_law_1003 l Ls xs c18 [some (.inr (some (.inr []))), some (.inr (some (.inl 0))), some (.inr (some (.inl 55))), some (.inl (nI (6 * j)))] [] h := by
  have hh := fyH (k := 202) (c := 20) (d := 260) (E := HL_R1_y20) rfl hs.1 hs.2 (by decide +kernel) hh
  refine And.intro (sv (k := 1) hj hL (by omega)) ?_
  refine And.intro (sv (k := 2) hj hL (by omega)) ?_
  refine callT (τ := τ) (tm := tmO [3, 9, 14, 19, 24, 27, 32, 35, 54, 39, 40, 47]) (A := [.inl (0, 3), .inl (4, 4), .inr (.inr (some (.inl 0)))]) (H := HL_R1_y20) (Ts := [([.inl (-2147483648, 2147483647)], HL_R1_w20)]) hΦ s_X11_exchange_y4 ⟨⟨_, rfl, g2⟩, ⟨_, rfl, g1⟩, rfl, trivial⟩ hh (by decide +kernel) (fun T hT st h1 q1 q2 => ?_)
  cases List.mem_singleton.mp hT
  obtain ⟨v, rfl, _⟩ := st1 q1
  refine And.intro (sv (k := 1) hj hL (by omega)) ?_
  refine And.intro (sv (k := 2) hj hL (by omega)) ?_
  refine callT (τ := τ) (tm := tmO [56, 57, 58, 59, 60, 61, 62, 63, 65, 66, 67, 68, 69, 70, 71, 72, 73, 74, 75, 76, 77, 78, 79, 80, 81, 82, 83, 84, 85]) (A := [.inl (0, 3), .inl (4, 4), .inr (.inr (some (.inl 55)))]) (H := HL_R1_w20) (Ts := [([.inl (-2147483648, 2147483647)], HL_R1_z0)]) hΦ s_X12_exchange_y4 ⟨⟨_, rfl, g2⟩, ⟨_, rfl, g1⟩, rfl, trivial⟩ q2 (by decide +kernel) (fun T hT st h2 q3 q4 => ?_)
  cases List.mem_singleton.mp hT
  obtain ⟨w, rfl, _⟩ := st1 q3
  exact K (upT τ 202 0) h2 hΦ ⟨RR_up 0 (by omega) upT_at hz.2, Or.inl (Or.inr (mvH (k := 202) (c := 0) rfl (fun t ht => upT_ne ht) (by rw [upT_at]; rfl) (by decide) (by decide +kernel) q4))⟩

set_option maxRecDepth 100000 in
theorem g_law_exchange_R1_y5 {l : Launch} {Ls : Nat} {xs : Nat → Int32} {c18 : Blk} {τ : Nat → List (Option Nat)} {h : PH} {j : Nat} (hΦ : Φ τ) (hz : RR τ) (hj : 6 * j + 6 ≤ Ls) (hL : Ls ≤ 3072) (hh : all2 (gC ρ0 τ) HL_R1 h) (K : ∀ (τ2 : Nat → List (Option Nat)) (h2 : PH), Φ τ2 → HH τ2 h2 → c18 [some (.inr (some (.inr []))), some (.inr (some (.inl 0))), some (.inr (some (.inl 55))), some (.inl (f_add (nI (6 * j)) 6))] [] h2) (g1 : 5 ≤ (xs (f_add (nI (6 * j)) 1).toNatClampNeg).toInt ∧ (xs (f_add (nI (6 * j)) 1).toNatClampNeg).toInt ≤ 5) (g2 : 0 ≤ (xs (f_add (nI (6 * j)) 2).toNatClampNeg).toInt ∧ (xs (f_add (nI (6 * j)) 2).toNatClampNeg).toInt ≤ 4) (hs : 40 ≤ (decA (τ 202) 0).toInt ∧ (decA (τ 202) 0).toInt ≤ 260) : b_L_law_1003 l Ls xs c18 [some (.inr (some (.inr []))), some (.inr (some (.inl 0))), some (.inr (some (.inl 55))), some (.inl (nI (6 * j)))] [] h := by
  have hh := fyH (k := 202) (c := 40) (d := 260) (E := HL_R1_y40) rfl hs.1 hs.2 (by decide +kernel) hh
  refine And.intro (sv (k := 1) hj hL (by omega)) ?_
  refine And.intro (sv (k := 2) hj hL (by omega)) ?_
  refine callT (τ := τ) (tm := tmO [3, 9, 14, 19, 24, 27, 32, 35, 54, 39, 40, 47]) (A := [.inl (0, 4), .inl (5, 5), .inr (.inr (some (.inl 0)))]) (H := HL_R1_y40) (Ts := [([.inl (-2147483648, 2147483647)], HL_R1_w40)]) hΦ s_X11_exchange_y5 ⟨⟨_, rfl, g2⟩, ⟨_, rfl, g1⟩, rfl, trivial⟩ hh (by decide +kernel) (fun T hT st h1 q1 q2 => ?_)
  cases List.mem_singleton.mp hT
  obtain ⟨v, rfl, _⟩ := st1 q1
  refine And.intro (sv (k := 1) hj hL (by omega)) ?_
  refine And.intro (sv (k := 2) hj hL (by omega)) ?_
  refine callT (τ := τ) (tm := tmO [56, 57, 58, 59, 60, 61, 62, 63, 65, 66, 67, 68, 69, 70, 71, 72, 73, 74, 75, 76, 77, 78, 79, 80, 81, 82, 83, 84, 85]) (A := [.inl (0, 4), .inl (5, 5), .inr (.inr (some (.inl 55)))]) (H := HL_R1_w40) (Ts := [([.inl (-2147483648, 2147483647)], HL_R1_z0)]) hΦ s_X12_exchange_y5 ⟨⟨_, rfl, g2⟩, ⟨_, rfl, g1⟩, rfl, trivial⟩ q2 (by decide +kernel) (fun T hT st h2 q3 q4 => ?_)
  cases List.mem_singleton.mp hT
  obtain ⟨w, rfl, _⟩ := st1 q3
  exact K (upT τ 202 0) h2 hΦ ⟨RR_up 0 (by omega) upT_at hz.2, Or.inl (Or.inr (mvH (k := 202) (c := 0) rfl (fun t ht => upT_ne ht) (by rw [upT_at]; rfl) (by decide) (by decide +kernel) q4))⟩

set_option maxRecDepth 100000 in
theorem g_law_exchange_R1_y6 {l : Launch} {Ls : Nat} {xs : Nat → Int32} {c18 : Blk} {τ : Nat → List (Option Nat)} {h : PH} {j : Nat} (hΦ : Φ τ) (hz : RR τ) (hj : 6 * j + 6 ≤ Ls) (hL : Ls ≤ 3072) (hh : all2 (gC ρ0 τ) HL_R1 h) (K : ∀ (τ2 : Nat → List (Option Nat)) (h2 : PH), Φ τ2 → HH τ2 h2 → c18 [some (.inr (some (.inr []))), some (.inr (some (.inl 0))), some (.inr (some (.inl 55))), some (.inl (f_add (nI (6 * j)) 6))] [] h2) (g1 : 6 ≤ (xs (f_add (nI (6 * j)) 1).toNatClampNeg).toInt ∧ (xs (f_add (nI (6 * j)) 1).toNatClampNeg).toInt ≤ 6) (g2 : 0 ≤ (xs (f_add (nI (6 * j)) 2).toNatClampNeg).toInt ∧ (xs (f_add (nI (6 * j)) 2).toNatClampNeg).toInt ≤ 5) (hs : 40 ≤ (decA (τ 202) 0).toInt ∧ (decA (τ 202) 0).toInt ≤ 260) : b_L_law_1003 l Ls xs c18 [some (.inr (some (.inr []))), some (.inr (some (.inl 0))), some (.inr (some (.inl 55))), some (.inl (nI (6 * j)))] [] h := by
  have hh := fyH (k := 202) (c := 40) (d := 260) (E := HL_R1_y40) rfl hs.1 hs.2 (by decide +kernel) hh
  refine And.intro (sv (k := 1) hj hL (by omega)) ?_
  refine And.intro (sv (k := 2) hj hL (by omega)) ?_
  refine callT (τ := τ) (tm := tmO [3, 9, 14, 19, 24, 27, 32, 35, 54, 39, 40, 47]) (A := [.inl (0, 5), .inl (6, 6), .inr (.inr (some (.inl 0)))]) (H := HL_R1_y40) (Ts := [([.inl (-2147483648, 2147483647)], HL_R1_w40)]) hΦ s_X11_exchange_y6 ⟨⟨_, rfl, g2⟩, ⟨_, rfl, g1⟩, rfl, trivial⟩ hh (by decide +kernel) (fun T hT st h1 q1 q2 => ?_)
  cases List.mem_singleton.mp hT
  obtain ⟨v, rfl, _⟩ := st1 q1
  refine And.intro (sv (k := 1) hj hL (by omega)) ?_
  refine And.intro (sv (k := 2) hj hL (by omega)) ?_
  refine callT (τ := τ) (tm := tmO [56, 57, 58, 59, 60, 61, 62, 63, 65, 66, 67, 68, 69, 70, 71, 72, 73, 74, 75, 76, 77, 78, 79, 80, 81, 82, 83, 84, 85]) (A := [.inl (0, 5), .inl (6, 6), .inr (.inr (some (.inl 55)))]) (H := HL_R1_w40) (Ts := [([.inl (-2147483648, 2147483647)], HL_R1_z0)]) hΦ s_X12_exchange_y6 ⟨⟨_, rfl, g2⟩, ⟨_, rfl, g1⟩, rfl, trivial⟩ q2 (by decide +kernel) (fun T hT st h2 q3 q4 => ?_)
  cases List.mem_singleton.mp hT
  obtain ⟨w, rfl, _⟩ := st1 q3
  exact K (upT τ 202 0) h2 hΦ ⟨RR_up 0 (by omega) upT_at hz.2, Or.inl (Or.inr (mvH (k := 202) (c := 0) rfl (fun t ht => upT_ne ht) (by rw [upT_at]; rfl) (by decide) (by decide +kernel) q4))⟩

set_option maxRecDepth 100000 in
theorem g_law_exchange_R1_n {l : Launch} {Ls : Nat} {xs : Nat → Int32} {c18 : Blk} {τ : Nat → List (Option Nat)} {h : PH} {j : Nat} (hΦ : Φ τ) (hz : RR τ) (hj : 6 * j + 6 ≤ Ls) (hL : Ls ≤ 3072) (hh : all2 (gC ρ0 τ) HL_R1 h) (K : ∀ (τ2 : Nat → List (Option Nat)) (h2 : PH), Φ τ2 → HH τ2 h2 → c18 [some (.inr (some (.inr []))), some (.inr (some (.inl 0))), some (.inr (some (.inl 55))), some (.inl (f_add (nI (6 * j)) 6))] [] h2) (hN : ¬ nd_exchange (xs (f_add (nI (6 * j)) 1).toNatClampNeg) (xs (f_add (nI (6 * j)) 2).toNatClampNeg) (decA (τ 202) 0)) : b_L_law_1003 l Ls xs c18 [some (.inr (some (.inr []))), some (.inr (some (.inl 0))), some (.inr (some (.inl 55))), some (.inl (nI (6 * j)))] [] h := by
  refine And.intro (sv (k := 1) hj hL (by omega)) ?_
  refine And.intro (sv (k := 2) hj hL (by omega)) ?_
  refine callSame (τ := τ) (xs := [(xs (f_add (nI (6 * j)) 1).toNatClampNeg), (xs (f_add (nI (6 * j)) 2).toNatClampNeg)]) (v := -1) (rest := []) (a := 0) (ci := 10) (tm := tmO [3, 9, 14, 19, 24, 27, 32, 35, 54, 39, 40, 47]) (H := HL_R1) hΦ hN i_nexchangeC hh (fun K h => h) rfl rfl rfl (by decide +kernel) ?_
  refine And.intro (sv (k := 1) hj hL (by omega)) ?_
  refine And.intro (sv (k := 2) hj hL (by omega)) ?_
  refine callSame (τ := τ) (xs := [(xs (f_add (nI (6 * j)) 1).toNatClampNeg), (xs (f_add (nI (6 * j)) 2).toNatClampNeg)]) (v := -1) (rest := []) (a := 55) (ci := 11) (tm := tmO [56, 57, 58, 59, 60, 61, 62, 63, 65, 66, 67, 68, 69, 70, 71, 72, 73, 74, 75, 76, 77, 78, 79, 80, 81, 82, 83, 84, 85]) (H := HL_R1) hΦ hN i_nexchangeR hh (fun K h => h) rfl rfl rfl (by decide +kernel) ?_
  exact K τ h hΦ ⟨hz, Or.inl (Or.inr hh)⟩

theorem g_law_exchange_R1 {l : Launch} {Ls : Nat} {xs : Nat → Int32} {c18 : Blk} {τ : Nat → List (Option Nat)} {h : PH} {j : Nat} (hΦ : Φ τ) (hz : RR τ) (hj : 6 * j + 6 ≤ Ls) (hL : Ls ≤ 3072) (hh : all2 (gC ρ0 τ) HL_R1 h) (K : ∀ (τ2 : Nat → List (Option Nat)) (h2 : PH), Φ τ2 → HH τ2 h2 → c18 [some (.inr (some (.inr []))), some (.inr (some (.inl 0))), some (.inr (some (.inl 55))), some (.inl (f_add (nI (6 * j)) 6))] [] h2) : b_L_law_1003 l Ls xs c18 [some (.inr (some (.inr []))), some (.inr (some (.inl 0))), some (.inr (some (.inl 55))), some (.inl (nI (6 * j)))] [] h := by
  by_cases hN : nd_exchange (xs (f_add (nI (6 * j)) 1).toNatClampNeg) (xs (f_add (nI (6 * j)) 2).toNatClampNeg) (decA (τ 202) 0)
  rotate_left
  · exact g_law_exchange_R1_n hΦ hz hj hL hh K hN
  obtain ⟨q, hq, hs⟩ := hz.1
  have p1 : (2 : Int) ≤ (xs (f_add (nI (6 * j)) 1).toNatClampNeg).toInt ∧ (xs (f_add (nI (6 * j)) 1).toNatClampNeg).toInt ≤ 6 := ⟨ge32 hN.1.1, ge32 hN.1.2⟩
  by_cases n_2 : (xs (f_add (nI (6 * j)) 1).toNatClampNeg).toInt = 2
  · have e : (xs (f_add (nI (6 * j)) 1).toNatClampNeg) = (2 : Int32) := i32eq.mpr (show (xs (f_add (nI (6 * j)) 1).toNatClampNeg).toInt = 2 by omega)
    rw [e] at hN
    have p2 : (0 : Int) ≤ (xs (f_add (nI (6 * j)) 2).toNatClampNeg).toInt ∧ (xs (f_add (nI (6 * j)) 2).toNatClampNeg).toInt ≤ 1 := ⟨ge32 hN.2.1.1, ge32 hN.2.1.2⟩
    have ps : (4 : Int) ≤ (decA (τ 202) 0).toInt := ge32 hN.2.2
    exact g_law_exchange_R1_y2 hΦ hz hj hL hh K ⟨by omega, by omega⟩ ⟨by omega, by omega⟩ ⟨by omega, by omega⟩
  by_cases n_3 : (xs (f_add (nI (6 * j)) 1).toNatClampNeg).toInt = 3
  · have e : (xs (f_add (nI (6 * j)) 1).toNatClampNeg) = (3 : Int32) := i32eq.mpr (show (xs (f_add (nI (6 * j)) 1).toNatClampNeg).toInt = 3 by omega)
    rw [e] at hN
    have p2 : (0 : Int) ≤ (xs (f_add (nI (6 * j)) 2).toNatClampNeg).toInt ∧ (xs (f_add (nI (6 * j)) 2).toNatClampNeg).toInt ≤ 2 := ⟨ge32 hN.2.1.1, ge32 hN.2.1.2⟩
    have ps : (9 : Int) ≤ (decA (τ 202) 0).toInt := ge32 hN.2.2
    exact g_law_exchange_R1_y3 hΦ hz hj hL hh K ⟨by omega, by omega⟩ ⟨by omega, by omega⟩ ⟨by omega, by omega⟩
  by_cases n_4 : (xs (f_add (nI (6 * j)) 1).toNatClampNeg).toInt = 4
  · have e : (xs (f_add (nI (6 * j)) 1).toNatClampNeg) = (4 : Int32) := i32eq.mpr (show (xs (f_add (nI (6 * j)) 1).toNatClampNeg).toInt = 4 by omega)
    rw [e] at hN
    have p2 : (0 : Int) ≤ (xs (f_add (nI (6 * j)) 2).toNatClampNeg).toInt ∧ (xs (f_add (nI (6 * j)) 2).toNatClampNeg).toInt ≤ 3 := ⟨ge32 hN.2.1.1, ge32 hN.2.1.2⟩
    have ps : (16 : Int) ≤ (decA (τ 202) 0).toInt := ge32 hN.2.2
    exact g_law_exchange_R1_y4 hΦ hz hj hL hh K ⟨by omega, by omega⟩ ⟨by omega, by omega⟩ ⟨by omega, by omega⟩
  by_cases n_5 : (xs (f_add (nI (6 * j)) 1).toNatClampNeg).toInt = 5
  · have e : (xs (f_add (nI (6 * j)) 1).toNatClampNeg) = (5 : Int32) := i32eq.mpr (show (xs (f_add (nI (6 * j)) 1).toNatClampNeg).toInt = 5 by omega)
    rw [e] at hN
    have p2 : (0 : Int) ≤ (xs (f_add (nI (6 * j)) 2).toNatClampNeg).toInt ∧ (xs (f_add (nI (6 * j)) 2).toNatClampNeg).toInt ≤ 4 := ⟨ge32 hN.2.1.1, ge32 hN.2.1.2⟩
    have ps : (25 : Int) ≤ (decA (τ 202) 0).toInt := ge32 hN.2.2
    exact g_law_exchange_R1_y5 hΦ hz hj hL hh K ⟨by omega, by omega⟩ ⟨by omega, by omega⟩ ⟨by omega, by omega⟩
  have e : (xs (f_add (nI (6 * j)) 1).toNatClampNeg) = (6 : Int32) := i32eq.mpr (show (xs (f_add (nI (6 * j)) 1).toNatClampNeg).toInt = 6 by omega)
  rw [e] at hN
  have p2 : (0 : Int) ≤ (xs (f_add (nI (6 * j)) 2).toNatClampNeg).toInt ∧ (xs (f_add (nI (6 * j)) 2).toNatClampNeg).toInt ≤ 5 := ⟨ge32 hN.2.1.1, ge32 hN.2.1.2⟩
  have ps : (36 : Int) ≤ (decA (τ 202) 0).toInt := ge32 hN.2.2
  exact g_law_exchange_R1_y6 hΦ hz hj hL hh K ⟨by omega, by omega⟩ ⟨by omega, by omega⟩ ⟨by omega, by omega⟩

set_option maxRecDepth 100000 in
theorem g_law_seed_R1 {l : Launch} {Ls : Nat} {xs : Nat → Int32} {c18 : Blk} {τ : Nat → List (Option Nat)} {h : PH} {j : Nat} (hΦ : Φ τ) (hz : RR τ) (hj : 6 * j + 6 ≤ Ls) (hL : Ls ≤ 3072) (hh : all2 (gC ρ0 τ) HL_R1 h) (K : ∀ (τ2 : Nat → List (Option Nat)) (h2 : PH), Φ τ2 → HH τ2 h2 → c18 [some (.inr (some (.inr []))), some (.inr (some (.inl 0))), some (.inr (some (.inl 55))), some (.inl (f_add (nI (6 * j)) 6))] [] h2) : b_L_law_1036 l Ls xs c18 [some (.inr (some (.inr []))), some (.inr (some (.inl 0))), some (.inr (some (.inl 55))), some (.inl (nI (6 * j)))] [] h := by
  refine And.intro (sv (k := 1) hj hL (by omega)) ?_
  refine callT (τ := τ) (tm := tmO [1, 3, 14, 19, 24, 27, 29, 32, 35, 54, 39, 40, 47]) (A := [.inl (-2147483648, 2147483647), .inr (.inr (some (.inl 0)))]) (H := HL_R1) (Ts := [([.inl (-2147483648, 2147483647)], HL_R1)]) hΦ s_X11_seed ⟨topA_ok _, rfl, trivial⟩ hh (by decide +kernel) (fun T hT st h1 q1 q2 => ?_)
  cases List.mem_singleton.mp hT
  obtain ⟨v, rfl, _⟩ := st1 q1
  refine And.intro (sv (k := 1) hj hL (by omega)) ?_
  refine callT (τ := τ) (tm := tmO [57, 58, 59, 60, 61, 62, 63, 64, 65, 66, 67, 68, 69, 70, 71, 72, 73, 74, 75, 76, 77, 78, 79, 80, 81, 82, 83, 84, 85, 86]) (A := [.inl (-2147483648, 2147483647), .inr (.inr (some (.inl 55)))]) (H := HL_R1) (Ts := [([.inl (-2147483648, 2147483647)], HL_R1)]) hΦ s_X12_seed ⟨topA_ok _, rfl, trivial⟩ q2 (by decide +kernel) (fun T hT st h2 q3 q4 => ?_)
  cases List.mem_singleton.mp hT
  obtain ⟨w, rfl, _⟩ := st1 q3
  exact K τ h2 hΦ ⟨hz, Or.inl (Or.inr q4)⟩

set_option maxRecDepth 100000 in
theorem g_law_keep_R1 {l : Launch} {Ls : Nat} {xs : Nat → Int32} {c18 : Blk} {τ : Nat → List (Option Nat)} {h : PH} {j : Nat} (hΦ : Φ τ) (hz : RR τ) (hj : 6 * j + 6 ≤ Ls) (hL : Ls ≤ 3072) (hh : all2 (gC ρ0 τ) HL_R1 h) (K : ∀ (τ2 : Nat → List (Option Nat)) (h2 : PH), Φ τ2 → HH τ2 h2 → c18 [some (.inr (some (.inr []))), some (.inr (some (.inl 0))), some (.inr (some (.inl 55))), some (.inl (f_add (nI (6 * j)) 6))] [] h2) : b_L_law_1059 l Ls xs c18 [some (.inr (some (.inr []))), some (.inr (some (.inl 0))), some (.inr (some (.inl 55))), some (.inl (nI (6 * j)))] [] h := by
  refine callX (τ := τ) (xs := []) (rest := []) (a := 0) (ci := 10) (tm := tmO [1, 3, 19, 24, 27, 29, 32, 35, 54, 39, 40, 47]) (H := HL_R1) (H2 := HL_R1_k1) hΦ trivial x_keepC hh (fun K h => h) rfl rfl rfl (by decide +kernel) (by decide +kernel) (by decide +kernel) (by decide +kernel) (fun τ2 p2 p3 v h1 qv q2 => ?_)
  refine callX (τ := τ2) (xs := []) (rest := []) (a := 55) (ci := 11) (tm := tmO [57, 59, 60, 61, 62, 63, 64, 65, 66, 67, 68, 69, 70, 71, 72, 73, 74, 75, 76, 77, 78, 79, 80, 81, 82, 83, 84, 85, 86]) (H := HL_R1_k1) (H2 := HL_R1_k2) p2 trivial x_keepR q2 (fun K h => h) rfl rfl rfl (by decide +kernel) (by decide +kernel) (by decide +kernel) (by decide +kernel) (fun τ3 p4 p5 w h2 qw q4 => ?_)
  have qv : decA (τ2 207) 0 = decA (τ 206) 0 := qv
  have qw : ∀ i, i < 8 → decA (τ3 209) i = decA (τ2 208) i := qw
  obtain ⟨⟨T, t1, t2⟩, _, hW⟩ := hz.2.2.2.2
  have htr : TR τ3 := ⟨⟨T, by rw [p5 206 rfl, p3 206 rfl]; exact t1, by rw [p5 208 rfl, p3 208 rfl]; exact t2⟩, ⟨T, by rw [p5 207 rfl, qv]; exact t1, fun i hi => by rw [qw i hi, p3 208 rfl]; exact t2 i hi⟩, (by intro i hi; rw [p5 263 rfl, p3 263 rfl, p5 264 rfl, p3 264 rfl]; exact hW i hi)⟩
  have hz3 : RR τ3 := ⟨(by rw [p5 202 rfl, p3 202 rfl]; exact hz.1), (by rw [p5 250 rfl, p3 250 rfl, p5 251 rfl, p3 251 rfl]; exact hz.2.1), (by have h := hz.2.2.1; unfold MR at h ⊢; rw [p5 203 rfl, p3 203 rfl, p5 252 rfl, p3 252 rfl, p5 253 rfl, p3 253 rfl, p5 254 rfl, p3 254 rfl]; exact h), (by have h := hz.2.2.2.1; unfold SR at h ⊢; rw [p5 204 rfl, p3 204 rfl, p5 205 rfl, p3 205 rfl, p5 255 rfl, p3 255 rfl, p5 256 rfl, p3 256 rfl, p5 257 rfl, p3 257 rfl, p5 258 rfl, p3 258 rfl]; exact h), htr⟩
  exact K (upT τ3 201 1) h2 p4 ⟨RR_to (fun t ht => upT_ne (fun z => by subst z; cases ht)) hz3, Or.inl (Or.inr (mvH (k := 201) (c := 1) rfl (fun t ht => upT_ne ht) (by rw [upT_at]; rfl) (by decide) (by decide +kernel) q4))⟩

set_option maxRecDepth 100000 in
theorem g_law_undo_R1 {l : Launch} {Ls : Nat} {xs : Nat → Int32} {c18 : Blk} {τ : Nat → List (Option Nat)} {h : PH} {j : Nat} (hΦ : Φ τ) (hz : RR τ) (hj : 6 * j + 6 ≤ Ls) (hL : Ls ≤ 3072) (hh : all2 (gC ρ0 τ) HL_R1 h) (K : ∀ (τ2 : Nat → List (Option Nat)) (h2 : PH), Φ τ2 → HH τ2 h2 → c18 [some (.inr (some (.inr []))), some (.inr (some (.inl 0))), some (.inr (some (.inl 55))), some (.inl (f_add (nI (6 * j)) 6))] [] h2) : b_L_law_1072 l Ls xs c18 [some (.inr (some (.inr []))), some (.inr (some (.inl 0))), some (.inr (some (.inl 55))), some (.inl (nI (6 * j)))] [] h := by
  have hr := tokR (i := 0) (j := 14) (t := 201) hh rfl rfl rfl
  have hr : 0 ≤ (decA (τ 201) 0).toInt ∧ (decA (τ 201) 0).toInt ≤ 1 := hr
  rcases (show (decA (τ 201) 0).toInt = 0 ∨ (decA (τ 201) 0).toInt = 1 by omega) with e | e
  · have hh := fxH (k := 201) (c := 0) (E := HL_R1_u0) rfl e (by decide +kernel) hh
    refine callX (τ := τ) (xs := []) (rest := []) (a := 0) (ci := 10) (tm := tmO [1, 19, 24, 27, 29, 32, 35, 54, 39, 40, 47]) (H := HL_R1_u0) (H2 := HL_R1_u0) hΦ trivial x_undo0C hh (fun K h => h) rfl rfl rfl (by decide +kernel) (by decide +kernel) (by decide +kernel) (by decide +kernel) (fun τ2 p2 p3 v h1 qv q2 => ?_)
    refine callX (τ := τ2) (xs := []) (rest := []) (a := 55) (ci := 11) (tm := tmO [57, 59, 60, 61, 62, 63, 64, 65, 66, 67, 68, 69, 70, 71, 72, 73, 74, 75, 76, 77, 78, 79, 80, 81, 82, 83, 84, 85, 86]) (H := HL_R1_u0) (H2 := HL_R1_u0) p2 trivial x_undo0R q2 (fun K h => h) rfl rfl rfl (by decide +kernel) (by decide +kernel) (by decide +kernel) (by decide +kernel) (fun τ3 p4 p5 w h2 qw q4 => ?_)
    have hz3 : RR τ3 := by
      have e2 : τ2 = τ := funext fun t => p3 t (Bool.and_false _)
      have e3 : τ3 = τ2 := funext fun t => p5 t (Bool.and_false _)
      rw [e3, e2]
      exact hz
    have e1 : (decA (τ3 201) 0).toInt = 0 := by rw [p5 201 rfl, p3 201 rfl]; exact e
    exact K τ3 h2 p4 ⟨hz3, Or.inl (Or.inr (mvH (k := 201) (c := 0) rfl (fun _ _ => rfl) e1 (by decide) (by decide +kernel) q4))⟩
  · have hh := fxH (k := 201) (c := 1) (E := HL_R1_k2) rfl e (by decide +kernel) hh
    refine callX (τ := τ) (xs := []) (rest := []) (a := 0) (ci := 10) (tm := tmO [1, 19, 24, 27, 29, 32, 35, 54, 39, 40, 47]) (H := HL_R1_k2) (H2 := HL_R1_k2) hΦ trivial x_undo1C hh (fun K h => h) rfl rfl rfl (by decide +kernel) (by decide +kernel) (by decide +kernel) (by decide +kernel) (fun τ2 p2 p3 v h1 qv q2 => ?_)
    refine callX (τ := τ2) (xs := []) (rest := []) (a := 55) (ci := 11) (tm := tmO [57, 59, 60, 61, 62, 63, 64, 65, 66, 67, 68, 69, 70, 71, 72, 73, 74, 75, 76, 77, 78, 79, 80, 81, 82, 83, 84, 85, 86]) (H := HL_R1_k2) (H2 := HL_R1_k2) p2 trivial x_undo1R q2 (fun K h => h) rfl rfl rfl (by decide +kernel) (by decide +kernel) (by decide +kernel) (by decide +kernel) (fun τ3 p4 p5 w h2 qw q4 => ?_)
    have qv : decA (τ2 206) 0 = decA (τ 207) 0 := qv
    have qw : ∀ i, i < 8 → decA (τ3 208) i = decA (τ2 209) i := qw
    obtain ⟨_, ⟨T, t1, t2⟩, hW⟩ := hz.2.2.2.2
    have htr : TR τ3 := ⟨⟨T, by rw [p5 206 rfl, qv]; exact t1, fun i hi => by rw [qw i hi, p3 209 rfl]; exact t2 i hi⟩, ⟨T, by rw [p5 207 rfl, p3 207 rfl]; exact t1, by rw [p5 209 rfl, p3 209 rfl]; exact t2⟩, (by intro i hi; rw [p5 263 rfl, p3 263 rfl, p5 264 rfl, p3 264 rfl]; exact hW i hi)⟩
    have hz3 : RR τ3 := ⟨(by rw [p5 202 rfl, p3 202 rfl]; exact hz.1), (by rw [p5 250 rfl, p3 250 rfl, p5 251 rfl, p3 251 rfl]; exact hz.2.1), (by have h := hz.2.2.1; unfold MR at h ⊢; rw [p5 203 rfl, p3 203 rfl, p5 252 rfl, p3 252 rfl, p5 253 rfl, p3 253 rfl, p5 254 rfl, p3 254 rfl]; exact h), (by have h := hz.2.2.2.1; unfold SR at h ⊢; rw [p5 204 rfl, p3 204 rfl, p5 205 rfl, p3 205 rfl, p5 255 rfl, p3 255 rfl, p5 256 rfl, p3 256 rfl, p5 257 rfl, p3 257 rfl, p5 258 rfl, p3 258 rfl]; exact h), htr⟩
    have e1 : (decA (τ3 201) 0).toInt = 1 := by rw [p5 201 rfl, p3 201 rfl]; exact e
    exact K τ3 h2 p4 ⟨hz3, Or.inl (Or.inr (mvH (k := 201) (c := 1) rfl (fun _ _ => rfl) e1 (by decide) (by decide +kernel) q4))⟩

set_option maxRecDepth 100000 in
theorem g_law_check_R1_y0 {l : Launch} {Ls : Nat} {xs : Nat → Int32} {c18 : Blk} {τ : Nat → List (Option Nat)} {h : PH} {j : Nat} (hΦ : Φ τ) (hz : RR τ) (hj : 6 * j + 6 ≤ Ls) (hL : Ls ≤ 3072) (hh : all2 (gC ρ0 τ) HL_R1 h) (K : ∀ (τ2 : Nat → List (Option Nat)) (h2 : PH), Φ τ2 → HH τ2 h2 → c18 [some (.inr (some (.inr []))), some (.inr (some (.inl 0))), some (.inr (some (.inl 55))), some (.inl (f_add (nI (6 * j)) 6))] [] h2) (g1 : 0 ≤ (xs (f_add (nI (6 * j)) 1).toNatClampNeg).toInt ∧ (xs (f_add (nI (6 * j)) 1).toNatClampNeg).toInt ≤ 0) (hs : 0 ≤ (decA (τ 202) 0).toInt ∧ (decA (τ 202) 0).toInt ≤ 260) : b_L_law_1085 l Ls xs c18 [some (.inr (some (.inr []))), some (.inr (some (.inl 0))), some (.inr (some (.inl 55))), some (.inl (nI (6 * j)))] [] h := by
  have hh := fyH (k := 202) (c := 0) (d := 260) (E := HL_R1_y0) rfl hs.1 hs.2 (by decide +kernel) hh
  refine And.intro (sv (k := 1) hj hL (by omega)) ?_
  refine callT (τ := τ) (tm := tmO [3, 14, 19, 24, 27, 29, 32, 35, 54, 39, 40, 47]) (A := [.inl (0, 0), .inr (.inr (some (.inl 0)))]) (H := HL_R1_y0) (Ts := [([.inl (-2147483648, 2147483647)], HL_R1_w0)]) hΦ s_X11_check_y0 ⟨⟨_, rfl, g1⟩, rfl, trivial⟩ hh (by decide +kernel) (fun T hT st h1 q1 q2 => ?_)
  cases List.mem_singleton.mp hT
  obtain ⟨v, rfl, _⟩ := st1 q1
  refine And.intro (sv (k := 1) hj hL (by omega)) ?_
  refine callT (τ := τ) (tm := tmO [57, 58, 59, 60, 61, 62, 63, 65, 66, 67, 68, 69, 70, 71, 72, 73, 74, 75, 76, 77, 78, 79, 80, 81, 82, 83, 84, 85, 86]) (A := [.inl (0, 0), .inr (.inr (some (.inl 55)))]) (H := HL_R1_w0) (Ts := [([.inl (-2147483648, 2147483647)], HL_R1_z0)]) hΦ s_X12_check_y0 ⟨⟨_, rfl, g1⟩, rfl, trivial⟩ q2 (by decide +kernel) (fun T hT st h2 q3 q4 => ?_)
  cases List.mem_singleton.mp hT
  obtain ⟨w, rfl, _⟩ := st1 q3
  exact K (upT τ 202 0) h2 hΦ ⟨RR_up 0 (by omega) upT_at hz.2, Or.inl (Or.inr (mvH (k := 202) (c := 0) rfl (fun t ht => upT_ne ht) (by rw [upT_at]; rfl) (by decide) (by decide +kernel) q4))⟩

set_option maxRecDepth 100000 in
theorem g_law_check_R1_y20 {l : Launch} {Ls : Nat} {xs : Nat → Int32} {c18 : Blk} {τ : Nat → List (Option Nat)} {h : PH} {j : Nat} (hΦ : Φ τ) (hz : RR τ) (hj : 6 * j + 6 ≤ Ls) (hL : Ls ≤ 3072) (hh : all2 (gC ρ0 τ) HL_R1 h) (K : ∀ (τ2 : Nat → List (Option Nat)) (h2 : PH), Φ τ2 → HH τ2 h2 → c18 [some (.inr (some (.inr []))), some (.inr (some (.inl 0))), some (.inr (some (.inl 55))), some (.inl (f_add (nI (6 * j)) 6))] [] h2) (g1 : 0 ≤ (xs (f_add (nI (6 * j)) 1).toNatClampNeg).toInt ∧ (xs (f_add (nI (6 * j)) 1).toNatClampNeg).toInt ≤ 8) (hs : 20 ≤ (decA (τ 202) 0).toInt ∧ (decA (τ 202) 0).toInt ≤ 260) : b_L_law_1085 l Ls xs c18 [some (.inr (some (.inr []))), some (.inr (some (.inl 0))), some (.inr (some (.inl 55))), some (.inl (nI (6 * j)))] [] h := by
  have hh := fyH (k := 202) (c := 20) (d := 260) (E := HL_R1_y20) rfl hs.1 hs.2 (by decide +kernel) hh
  refine And.intro (sv (k := 1) hj hL (by omega)) ?_
  refine callT (τ := τ) (tm := tmO [3, 14, 19, 24, 27, 29, 32, 35, 54, 39, 40, 47]) (A := [.inl (0, 8), .inr (.inr (some (.inl 0)))]) (H := HL_R1_y20) (Ts := [([.inl (-2147483648, 2147483647)], HL_R1_w20)]) hΦ s_X11_check_y20 ⟨⟨_, rfl, g1⟩, rfl, trivial⟩ hh (by decide +kernel) (fun T hT st h1 q1 q2 => ?_)
  cases List.mem_singleton.mp hT
  obtain ⟨v, rfl, _⟩ := st1 q1
  refine And.intro (sv (k := 1) hj hL (by omega)) ?_
  refine callT (τ := τ) (tm := tmO [57, 58, 59, 60, 61, 62, 63, 65, 66, 67, 68, 69, 70, 71, 72, 73, 74, 75, 76, 77, 78, 79, 80, 81, 82, 83, 84, 85, 86]) (A := [.inl (0, 8), .inr (.inr (some (.inl 55)))]) (H := HL_R1_w20) (Ts := [([.inl (-2147483648, 2147483647)], HL_R1_z0)]) hΦ s_X12_check_y20 ⟨⟨_, rfl, g1⟩, rfl, trivial⟩ q2 (by decide +kernel) (fun T hT st h2 q3 q4 => ?_)
  cases List.mem_singleton.mp hT
  obtain ⟨w, rfl, _⟩ := st1 q3
  exact K (upT τ 202 0) h2 hΦ ⟨RR_up 0 (by omega) upT_at hz.2, Or.inl (Or.inr (mvH (k := 202) (c := 0) rfl (fun t ht => upT_ne ht) (by rw [upT_at]; rfl) (by decide) (by decide +kernel) q4))⟩

set_option maxRecDepth 100000 in
theorem g_law_check_R1_n {l : Launch} {Ls : Nat} {xs : Nat → Int32} {c18 : Blk} {τ : Nat → List (Option Nat)} {h : PH} {j : Nat} (hΦ : Φ τ) (hz : RR τ) (hj : 6 * j + 6 ≤ Ls) (hL : Ls ≤ 3072) (hh : all2 (gC ρ0 τ) HL_R1 h) (K : ∀ (τ2 : Nat → List (Option Nat)) (h2 : PH), Φ τ2 → HH τ2 h2 → c18 [some (.inr (some (.inr []))), some (.inr (some (.inl 0))), some (.inr (some (.inl 55))), some (.inl (f_add (nI (6 * j)) 6))] [] h2) (hN : ¬ nd_check (xs (f_add (nI (6 * j)) 1).toNatClampNeg) (decA (τ 202) 0)) : b_L_law_1085 l Ls xs c18 [some (.inr (some (.inr []))), some (.inr (some (.inl 0))), some (.inr (some (.inl 55))), some (.inl (nI (6 * j)))] [] h := by
  refine And.intro (sv (k := 1) hj hL (by omega)) ?_
  refine callSame (τ := τ) (xs := [(xs (f_add (nI (6 * j)) 1).toNatClampNeg)]) (v := -2) (rest := []) (a := 0) (ci := 10) (tm := tmO [3, 14, 19, 24, 27, 29, 32, 35, 54, 39, 40, 47]) (H := HL_R1) hΦ hN i_ncheckC hh (fun K h => h) rfl rfl rfl (by decide +kernel) ?_
  refine And.intro (sv (k := 1) hj hL (by omega)) ?_
  refine callSame (τ := τ) (xs := [(xs (f_add (nI (6 * j)) 1).toNatClampNeg)]) (v := -2) (rest := []) (a := 55) (ci := 11) (tm := tmO [57, 58, 59, 60, 61, 62, 63, 65, 66, 67, 68, 69, 70, 71, 72, 73, 74, 75, 76, 77, 78, 79, 80, 81, 82, 83, 84, 85, 86]) (H := HL_R1) hΦ hN i_ncheckR hh (fun K h => h) rfl rfl rfl (by decide +kernel) ?_
  exact K τ h hΦ ⟨hz, Or.inl (Or.inr hh)⟩

theorem g_law_check_R1 {l : Launch} {Ls : Nat} {xs : Nat → Int32} {c18 : Blk} {τ : Nat → List (Option Nat)} {h : PH} {j : Nat} (hΦ : Φ τ) (hz : RR τ) (hj : 6 * j + 6 ≤ Ls) (hL : Ls ≤ 3072) (hh : all2 (gC ρ0 τ) HL_R1 h) (K : ∀ (τ2 : Nat → List (Option Nat)) (h2 : PH), Φ τ2 → HH τ2 h2 → c18 [some (.inr (some (.inr []))), some (.inr (some (.inl 0))), some (.inr (some (.inl 55))), some (.inl (f_add (nI (6 * j)) 6))] [] h2) : b_L_law_1085 l Ls xs c18 [some (.inr (some (.inr []))), some (.inr (some (.inl 0))), some (.inr (some (.inl 55))), some (.inl (nI (6 * j)))] [] h := by
  by_cases hN : nd_check (xs (f_add (nI (6 * j)) 1).toNatClampNeg) (decA (τ 202) 0)
  rotate_left
  · exact g_law_check_R1_n hΦ hz hj hL hh K hN
  obtain ⟨q, hq, hs⟩ := hz.1
  have p1 : (0 : Int) ≤ (xs (f_add (nI (6 * j)) 1).toNatClampNeg).toInt ∧ (xs (f_add (nI (6 * j)) 1).toNatClampNeg).toInt ≤ 8 := ⟨ge32 hN.1.1, ge32 hN.1.2⟩
  have ps : (xs (f_add (nI (6 * j)) 1).toNatClampNeg).toInt ≤ (decA (τ 202) 0).toInt := ge32 hN.2
  by_cases c_0 : (xs (f_add (nI (6 * j)) 1).toNatClampNeg).toInt ≤ 0
  · exact g_law_check_R1_y0 hΦ hz hj hL hh K ⟨by omega, by omega⟩ ⟨by omega, by omega⟩
  exact g_law_check_R1_y20 hΦ hz hj hL hh K ⟨by omega, by omega⟩ ⟨by omega, by omega⟩

set_option maxRecDepth 100000 in
theorem g_law_count_R1 {l : Launch} {Ls : Nat} {xs : Nat → Int32} {c18 : Blk} {τ : Nat → List (Option Nat)} {h : PH} {j : Nat} (hΦ : Φ τ) (hz : RR τ) (hj : 6 * j + 6 ≤ Ls) (hL : Ls ≤ 3072) (hh : all2 (gC ρ0 τ) HL_R1 h) (K : ∀ (τ2 : Nat → List (Option Nat)) (h2 : PH), Φ τ2 → HH τ2 h2 → c18 [some (.inr (some (.inr []))), some (.inr (some (.inl 0))), some (.inr (some (.inl 55))), some (.inl (f_add (nI (6 * j)) 6))] [] h2) : b_L_law_1108 l Ls xs c18 [some (.inr (some (.inr []))), some (.inr (some (.inl 0))), some (.inr (some (.inl 55))), some (.inl (nI (6 * j)))] [] h := by
  refine And.intro (sv (k := 1) hj hL (by omega)) ?_
  refine callT (τ := τ) (tm := tmO [14, 19, 24, 27, 29, 32, 35, 54, 39, 47]) (A := [.inl (-2147483648, 2147483647), .inr (.inr (some (.inl 0)))]) (H := HL_R1) (Ts := [([.inl (-2147483648, 2147483647)], HL_R1)]) hΦ s_X11_count_t ⟨topA_ok _, rfl, trivial⟩ hh (by decide +kernel) (fun T hT st h1 q1 q2 => ?_)
  cases List.mem_singleton.mp hT
  obtain ⟨v, rfl, _⟩ := st1 q1
  refine And.intro (sv (k := 1) hj hL (by omega)) ?_
  refine callT (τ := τ) (tm := tmO [57, 58, 60, 61, 63, 64, 65, 66, 67, 68, 69, 70, 71, 72, 73, 74, 75, 76, 77, 78, 79, 80, 81, 82, 83, 84, 85, 86]) (A := [.inl (-2147483648, 2147483647), .inr (.inr (some (.inl 55)))]) (H := HL_R1) (Ts := [([.inl (-2147483648, 2147483647)], HL_R1)]) hΦ s_X12_count ⟨topA_ok _, rfl, trivial⟩ q2 (by decide +kernel) (fun T hT st h2 q3 q4 => ?_)
  cases List.mem_singleton.mp hT
  obtain ⟨w, rfl, _⟩ := st1 q3
  exact K τ h2 hΦ ⟨hz, Or.inl (Or.inr q4)⟩

