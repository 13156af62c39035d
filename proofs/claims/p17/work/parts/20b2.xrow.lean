def hc_a5061c7b5a : List AC := [.inr (10, [.inr (.inr (some (.inr 0))), .inr (.inr (some (.inl 1))), .inr (.inr (some (.inr 1))), .inr (.inr (some (.inr 2))), .inr (.inr (some (.inr 3))), .inr (.inr (some (.inr 4))), .inr (.inr (some (.inr 5))), .inr (.inr (some (.inr 6))), .inr (.inr (some (.inr 7))), .inr (.inr (some (.inr 8))), .inr (.inr (some (.inr 9))), .inr (.inr (some (.inr 10))), .inr (.inr (some (.inr 11))), .inr (.inr (some (.inr 12))), .inr (.inr (some (.inr 201)))]), .inr (6, [.inr (.inr (some (.inl 2))), .inr (.inr (some (.inl 3))), .inr (.inr (some (.inl 4))), .inr (.inr (some (.inl 5))), .inr (.inr (some (.inl 6))), .inr (.inr (some (.inr 203))), .inl (-2147483648, 2147483647), .inr (.inr (some (.inr 204)))]), .inl (1008, 8, -2147483648, 2147483647), .inl (1012, 8, -2147483648, 2147483647), .inl (1054, 384, 0, 1), .inl (1020, 48, -2147483648, 2147483647), .inl (1024, 48, -2147483648, 2147483647)]
def hc_ef9b4feb14 : List AC := [.inr (10, [.inr (.inr (some (.inl 1))), .inr (.inr (some (.inl 6))), .inr (.inr (some (.inl 12))), .inr (.inr (some (.inr 0))), .inr (.inr (some (.inr 1))), .inr (.inr (some (.inr 2))), .inr (.inr (some (.inr 3))), .inr (.inr (some (.inr 4))), .inr (.inr (some (.inl 3))), .inr (.inr (some (.inr 5))), .inr (.inr (some (.inr 6))), .inr (.inr (some (.inr 7))), .inr (.inr (some (.inr 8))), .inr (.inr (some (.inr 9))), .inr (.inr (some (.inr 201)))]), .inr (9, [.inr (.inr (some (.inl 2))), .inl (0, 0)]), .inl (1000, 260, 0, 255), .inr (8, [.inr (.inr (some (.inl 2))), .inl (-2147483648, 2147483647), .inl (-2147483648, 2147483647), .inl (-2147483648, 2147483647), .inl (-2147483648, 2147483647), .inr (.inr (some (.inl 4))), .inr (.inr (some (.inl 5))), .inl (0, 48)]), .inl (0, 48, -2147483648, 2147483647), .inl (0, 48, -2147483648, 2147483647), .inr (6, [.inr (.inr (some (.inl 7))), .inr (.inr (some (.inl 8))), .inr (.inr (some (.inl 9))), .inr (.inr (some (.inl 10))), .inr (.inr (some (.inl 11))), .inr (.inr (some (.inr 203))), .inl (-2147483648, 2147483647), .inr (.inr (some (.inr 204)))]), .inl (1008, 8, -2147483648, 2147483647), .inl (1012, 8, -2147483648, 2147483647), .inl (1054, 384, 0, 1), .inl (1020, 48, -2147483648, 2147483647), .inl (1024, 48, -2147483648, 2147483647), .inr (4, [.inr (.inr (some (.inl 13))), .inr (.inr (some (.inl 14))), .inr (.inr (some (.inl 15))), .inr (.inr (some (.inl 16))), .inr (.inr (some (.inr 206))), .inl (-2147483648, 2147483647), .inl (-2147483648, 2147483647), .inl (-2147483648, 2147483647)]), .inl (0, 8, -2147483648, 2147483647), .inl (0, 8, -2147483648, 2147483647), .inl (0, 48, -2147483648, 2147483647), .inl (0, 48, -2147483648, 2147483647)]
def hc_3d9ad22d30 : List AC := [.inr (11, [.inr (.inr (some (.inl 1))), .inr (.inr (some (.inr 0))), .inr (.inr (some (.inr 1))), .inr (.inr (some (.inr 2))), .inr (.inr (some (.inl 2))), .inr (.inr (some (.inl 3))), .inr (.inr (some (.inr 3))), .inr (.inr (some (.inr 4))), .inr (.inr (some (.inr 205))), .inr (.inr (some (.inl 4))), .inl (0, 0), .inl (0, 240), .inl (0, 240), .inl (-2147483648, 2147483647), .inl (-2147483648, 2147483647), .inl (-2147483648, 2147483647), .inl (0, 260), .inl (0, 260), .inl (0, 16), .inr (.inr (some (.inr 200))), .inr (.inr (some (.inr 5))), .inr (.inr (some (.inr 6))), .inr (.inr (some (.inr 7))), .inr (.inr (some (.inr 8))), .inr (.inr (some (.inr 9))), .inr (.inr (some (.inr 10))), .inr (.inr (some (.inr 11))), .inr (.inr (some (.inr 12))), .inr (.inr (some (.inr 13))), .inr (.inr (some (.inr 14))), .inr (.inr (some (.inr 15))), .inr (.inr (some (.inr 16))), .inr (.inr (some (.inr 17))), .inr (.inr (some (.inl 5))), .inr (.inr (some (.inl 6))), .inr (.inr (some (.inl 7))), .inr (.inr (some (.inl 8))), .inl (-2147483648, 2147483647), .inl (-2147483648, 2147483647), .inl (-2147483648, 2147483647), .inl (-2147483648, 2147483647), .inl (-2147483648, 2147483647), .inl (-2147483648, 2147483647), .inl (-2147483648, 2147483647), .inl (-2147483648, 2147483647), .inl (-2147483648, 2147483647), .inl (-2147483648, 2147483647), .inr (.inr (some (.inr 18))), .inr (.inr (some (.inr 19))), .inr (.inr (some (.inr 20))), .inr (.inr (some (.inr 21))), .inr (.inr (some (.inr 22))), .inr (.inr (some (.inr 201)))]), .inl (600, 130, 0, 383), .inl (1028, 48, 0, 7), .inl (1032, 48, 0, 2), .inl (1005, 260, -128, 127), .inl (0, 48, 0, 23), .inl (0, 2, -2147483648, 2147483647), .inl (0, 2, -2147483648, 2147483647), .inl (0, 2, -2147483648, 2147483647)]
def hc_8b88427f46 : List AC := [.inr (10, [.inr (.inr (some (.inl 1))), .inr (.inr (some (.inl 12))), .inr (.inr (some (.inl 7))), .inr (.inr (some (.inr 0))), .inr (.inr (some (.inr 1))), .inr (.inr (some (.inr 2))), .inr (.inr (some (.inr 3))), .inr (.inr (some (.inr 4))), .inr (.inr (some (.inr 5))), .inr (.inr (some (.inl 3))), .inr (.inr (some (.inr 6))), .inr (.inr (some (.inr 7))), .inr (.inr (some (.inr 8))), .inr (.inr (some (.inr 9))), .inr (.inr (some (.inr 201)))]), .inr (9, [.inr (.inr (some (.inl 2))), .inl (0, 0)]), .inl (1000, 260, 0, 255), .inr (5, [.inr (.inr (some (.inl 2))), .inl (-2147483648, 2147483647), .inl (-2147483648, 2147483647), .inl (-2147483648, 2147483647), .inl (-2147483648, 2147483647), .inr (.inr (some (.inl 4))), .inr (.inr (some (.inl 5))), .inr (.inr (some (.inl 6))), .inl (0, 20), .inl (-2147483648, 2147483647), .inl (-2147483648, 2147483647)]), .inl (0, 20, -2147483648, 2147483647), .inl (0, 20, -2147483648, 2147483647), .inl (0, 20, -2147483648, 2147483647), .inr (4, [.inr (.inr (some (.inl 8))), .inr (.inr (some (.inl 9))), .inr (.inr (some (.inl 10))), .inr (.inr (some (.inl 11))), .inr (.inr (some (.inr 206))), .inl (-2147483648, 2147483647), .inl (-2147483648, 2147483647), .inl (-2147483648, 2147483647)]), .inl (0, 8, -2147483648, 2147483647), .inl (0, 8, -2147483648, 2147483647), .inl (0, 48, -2147483648, 2147483647), .inl (0, 48, -2147483648, 2147483647), .inr (6, [.inr (.inr (some (.inl 13))), .inr (.inr (some (.inl 14))), .inr (.inr (some (.inl 15))), .inr (.inr (some (.inl 16))), .inr (.inr (some (.inl 17))), .inr (.inr (some (.inr 203))), .inl (-2147483648, 2147483647), .inr (.inr (some (.inr 204)))]), .inl (1008, 8, -2147483648, 2147483647), .inl (1012, 8, -2147483648, 2147483647), .inl (1054, 384, 0, 1), .inl (1020, 48, -2147483648, 2147483647), .inl (1024, 48, -2147483648, 2147483647)]
def hc_c75a9ccc1a : List AC := [.inr (11, [.inr (.inr (some (.inl 1))), .inr (.inr (some (.inl 2))), .inr (.inr (some (.inr 0))), .inr (.inr (some (.inr 1))), .inr (.inr (some (.inr 2))), .inr (.inr (some (.inr 3))), .inr (.inr (some (.inl 3))), .inr (.inr (some (.inl 4))), .inr (.inr (some (.inr 205))), .inr (.inr (some (.inl 5))), .inl (0, 0), .inl (0, 240), .inl (0, 240), .inl (-2147483648, 2147483647), .inl (-2147483648, 2147483647), .inl (-2147483648, 2147483647), .inl (0, 260), .inl (0, 260), .inl (0, 16), .inr (.inr (some (.inr 200))), .inr (.inr (some (.inr 4))), .inr (.inr (some (.inr 5))), .inr (.inr (some (.inr 6))), .inr (.inr (some (.inr 7))), .inr (.inr (some (.inr 8))), .inr (.inr (some (.inr 9))), .inr (.inr (some (.inr 10))), .inr (.inr (some (.inr 11))), .inr (.inr (some (.inr 12))), .inr (.inr (some (.inr 13))), .inr (.inr (some (.inr 14))), .inr (.inr (some (.inr 15))), .inr (.inr (some (.inr 16))), .inr (.inr (some (.inr 17))), .inr (.inr (some (.inr 18))), .inr (.inr (some (.inr 19))), .inr (.inr (some (.inr 20))), .inl (-2147483648, 2147483647), .inl (-2147483648, 2147483647), .inl (-2147483648, 2147483647), .inl (-2147483648, 2147483647), .inl (-2147483648, 2147483647), .inl (-2147483648, 2147483647), .inl (-2147483648, 2147483647), .inl (-2147483648, 2147483647), .inl (-2147483648, 2147483647), .inl (-2147483648, 2147483647), .inr (.inr (some (.inr 21))), .inr (.inr (some (.inr 22))), .inr (.inr (some (.inr 23))), .inr (.inr (some (.inr 24))), .inr (.inr (some (.inr 25))), .inr (.inr (some (.inr 201)))]), .inl (600, 130, 0, 383), .inl (3, 130, 0, 383), .inl (1058, 384, 0, 1), .inl (2, 384, 0, 1), .inl (1005, 260, -128, 127)]
def hc_b5aa9fcafe : List AC := [.inr (11, [.inr (.inr (some (.inl 1))), .inr (.inr (some (.inr 0))), .inr (.inr (some (.inl 2))), .inr (.inr (some (.inr 1))), .inr (.inr (some (.inr 2))), .inr (.inr (some (.inr 3))), .inr (.inr (some (.inr 4))), .inr (.inr (some (.inr 5))), .inr (.inr (some (.inr 205))), .inr (.inr (some (.inr 6))), .inr (.inr (some (.inr 202))), .inl (0, 240), .inl (0, 240), .inl (-2147483648, 2147483647), .inl (-2147483648, 2147483647), .inl (-2147483648, 2147483647), .inl (0, 260), .inl (0, 260), .inl (0, 16), .inr (.inr (some (.inr 200))), .inr (.inr (some (.inr 7))), .inr (.inr (some (.inr 8))), .inr (.inr (some (.inr 9))), .inr (.inr (some (.inr 10))), .inr (.inr (some (.inr 11))), .inr (.inr (some (.inr 12))), .inr (.inr (some (.inr 13))), .inr (.inr (some (.inr 14))), .inr (.inr (some (.inr 15))), .inr (.inr (some (.inr 16))), .inr (.inr (some (.inr 17))), .inr (.inr (some (.inr 18))), .inr (.inr (some (.inr 19))), .inr (.inr (some (.inr 20))), .inr (.inr (some (.inr 21))), .inr (.inr (some (.inr 22))), .inr (.inr (some (.inr 23))), .inl (-2147483648, 2147483647), .inl (-2147483648, 2147483647), .inl (-2147483648, 2147483647), .inl (-2147483648, 2147483647), .inl (-2147483648, 2147483647), .inl (-2147483648, 2147483647), .inl (-2147483648, 2147483647), .inl (-2147483648, 2147483647), .inl (-2147483648, 2147483647), .inl (-2147483648, 2147483647), .inr (.inr (some (.inr 24))), .inr (.inr (some (.inr 25))), .inr (.inr (some (.inr 26))), .inr (.inr (some (.inr 27))), .inr (.inr (some (.inr 28))), .inl (1, 1)]), .inl (600, 130, 0, 383), .inl (601, 130, 0, 383)]
def P_X11_mint_1 : List Nd := [(1, [], [1, 1]), (0, [0], [2]), (0, [7], [3]), (31, [], [15, 5, 0, 0, 3]), (10, [], [15, 5, 0]), (1, [], [6, 2]), (0, [0], [7]), (0, [23], [8]), (31, [], [15, 10, 1, 0, 3]), (10, [], [15, 10, 0]), (1, [], [11, 3]), (0, [0], [12]), (0, [15], [13]), (31, [], [15, 17, 2, 0, 3]), (10, [], [15, 17, 0]), (0, [0], [16]), (25, [], []), (2, [], [18, 0]), (18, [], [19, 1, 10]), (1, [], [20, 1]), (1, [], [21, 2]), (1, [], [22, 3]), (26, [], [23, 0, 7, 4, 1, 2, 3, 4, 5, 6]), (0, [1], [24]), (25, [], [])]
def C_X11_mint_1 : Con := ([.inr (.inr (some (.inl 0))), .inl (-2147483648, -1), .inl (-2147483648, 2147483647), .inl (-2147483648, 2147483647)], hc_a5061c7b5a, [(some (0, 0), hc_a5061c7b5a)])
set_option maxRecDepth 100000 in
theorem s_X11_mint_1 {l : Launch} : conOk (MetP l 2 yX11_mint cX11_mint 4 (some .boolean) 0 0) C_X11_mint_1 := by
  intro τ hΦ as h ha hh
  refine m_X11_mint  (by rw [all2_len ha]; exact Nat.le_of_ble_eq_true rfl) ?_
  · exact run0 (τ := τ) (P := P_X11_mint_1) (CE := []) (CS := [C_void]) (Ms := [MetP l 1 yX7_tellMint cX7_tellMint 4 none 0 0]) (GS := [(([topA, .inl (0, 2147483647), .inl (-2147483648, 7)], [], some (0, 1), []), 0, 0, 7), (([topA, .inl (0, 2147483647), .inl (-2147483648, 23)], [], some (0, 1), []), 0, 0, 23), (([topA, .inl (0, 2147483647), .inl (-2147483648, 15)], [], some (0, 1), []), 0, 0, 15)]) (Mg := [MetP l 0 yX11_within cX11_within 3 (some .boolean) 0 0, MetP l 0 yX11_within cX11_within 3 (some .boolean) 0 0, MetP l 0 yX11_within cX11_within 3 (some .boolean) 0 0]) (T := ((C_X11_mint_1.1.map some ++ List.replicate (4 - 4) none, [], C_X11_mint_1.2.1) : Tg)) (sl := [(0, 1), (0, 2), (0, 3)]) (q := 27) (x := 0) (L := enL as 4) (st := []) (h := h) hΦ (fun j C e => match j, e with | 0, e => (by cases e; exact s_void) | _ + 1, e => (by cases e)) (fun j g e => match j, e with | 0, e => (by cases e; exact gd_within (0) (7)) | 1, e => (by cases e; exact gd_within (0) (23)) | 2, e => (by cases e; exact gd_within (0) (15)) | _ + 3, e => (by cases e)) (RS := C_X11_mint_1.2.2) (Rv := (fun r h' => ∃ q, q ∈ C_X11_mint_1.2.2 ∧ gR q.1 r ∧ all2 (gC ρ0 τ) q.2 h')) (GR := none) (M := (0, [])) (fun r h' q hq h1 h2 _ => ⟨q, hq, h1, h2⟩) ⟨door ha, trivial, hh⟩ (by decide +kernel)

def P_X11_mint_2 : List Nd := [(1, [], [1, 1]), (0, [0], [2]), (0, [7], [3]), (31, [], [15, 5, 0, 0, 3]), (10, [], [15, 5, 0]), (1, [], [6, 2]), (0, [0], [7]), (0, [23], [8]), (31, [], [15, 10, 1, 0, 3]), (10, [], [15, 10, 0]), (1, [], [11, 3]), (0, [0], [12]), (0, [15], [13]), (31, [], [15, 17, 2, 0, 3]), (10, [], [15, 17, 0]), (0, [0], [16]), (25, [], []), (2, [], [18, 0]), (18, [], [19, 1, 10]), (1, [], [20, 1]), (1, [], [21, 2]), (1, [], [22, 3]), (26, [], [23, 0, 7, 4, 1, 2, 3, 4, 5, 6]), (0, [1], [24]), (25, [], [])]
def C_X11_mint_2 : Con := ([.inr (.inr (some (.inl 0))), .inl (8, 2147483647), .inl (-2147483648, 2147483647), .inl (-2147483648, 2147483647)], hc_a5061c7b5a, [(some (0, 0), hc_a5061c7b5a)])
set_option maxRecDepth 100000 in
theorem s_X11_mint_2 {l : Launch} : conOk (MetP l 2 yX11_mint cX11_mint 4 (some .boolean) 0 0) C_X11_mint_2 := by
  intro τ hΦ as h ha hh
  refine m_X11_mint  (by rw [all2_len ha]; exact Nat.le_of_ble_eq_true rfl) ?_
  · exact run0 (τ := τ) (P := P_X11_mint_2) (CE := []) (CS := [C_void]) (Ms := [MetP l 1 yX7_tellMint cX7_tellMint 4 none 0 0]) (GS := [(([topA, .inl (0, 2147483647), .inl (-2147483648, 7)], [], some (0, 1), []), 0, 0, 7), (([topA, .inl (0, 2147483647), .inl (-2147483648, 23)], [], some (0, 1), []), 0, 0, 23), (([topA, .inl (0, 2147483647), .inl (-2147483648, 15)], [], some (0, 1), []), 0, 0, 15)]) (Mg := [MetP l 0 yX11_within cX11_within 3 (some .boolean) 0 0, MetP l 0 yX11_within cX11_within 3 (some .boolean) 0 0, MetP l 0 yX11_within cX11_within 3 (some .boolean) 0 0]) (T := ((C_X11_mint_2.1.map some ++ List.replicate (4 - 4) none, [], C_X11_mint_2.2.1) : Tg)) (sl := [(0, 1), (0, 2), (0, 3)]) (q := 27) (x := 0) (L := enL as 4) (st := []) (h := h) hΦ (fun j C e => match j, e with | 0, e => (by cases e; exact s_void) | _ + 1, e => (by cases e)) (fun j g e => match j, e with | 0, e => (by cases e; exact gd_within (0) (7)) | 1, e => (by cases e; exact gd_within (0) (23)) | 2, e => (by cases e; exact gd_within (0) (15)) | _ + 3, e => (by cases e)) (RS := C_X11_mint_2.2.2) (Rv := (fun r h' => ∃ q, q ∈ C_X11_mint_2.2.2 ∧ gR q.1 r ∧ all2 (gC ρ0 τ) q.2 h')) (GR := none) (M := (0, [])) (fun r h' q hq h1 h2 _ => ⟨q, hq, h1, h2⟩) ⟨door ha, trivial, hh⟩ (by decide +kernel)

def P_X11_mint_3 : List Nd := [(1, [], [1, 1]), (0, [0], [2]), (0, [7], [3]), (31, [], [15, 5, 0, 0, 3]), (10, [], [15, 5, 0]), (1, [], [6, 2]), (0, [0], [7]), (0, [23], [8]), (31, [], [15, 10, 1, 0, 3]), (10, [], [15, 10, 0]), (1, [], [11, 3]), (0, [0], [12]), (0, [15], [13]), (31, [], [15, 17, 2, 0, 3]), (10, [], [15, 17, 0]), (0, [0], [16]), (25, [], []), (2, [], [18, 0]), (18, [], [19, 1, 10]), (1, [], [20, 1]), (1, [], [21, 2]), (1, [], [22, 3]), (26, [], [23, 0, 7, 4, 1, 2, 3, 4, 5, 6]), (0, [1], [24]), (25, [], [])]
def C_X11_mint_3 : Con := ([.inr (.inr (some (.inl 0))), .inl (-2147483648, 2147483647), .inl (-2147483648, -1), .inl (-2147483648, 2147483647)], hc_a5061c7b5a, [(some (0, 0), hc_a5061c7b5a)])
set_option maxRecDepth 100000 in
theorem s_X11_mint_3 {l : Launch} : conOk (MetP l 2 yX11_mint cX11_mint 4 (some .boolean) 0 0) C_X11_mint_3 := by
  intro τ hΦ as h ha hh
  refine m_X11_mint  (by rw [all2_len ha]; exact Nat.le_of_ble_eq_true rfl) ?_
  · exact run0 (τ := τ) (P := P_X11_mint_3) (CE := []) (CS := [C_void]) (Ms := [MetP l 1 yX7_tellMint cX7_tellMint 4 none 0 0]) (GS := [(([topA, .inl (0, 2147483647), .inl (-2147483648, 7)], [], some (0, 1), []), 0, 0, 7), (([topA, .inl (0, 2147483647), .inl (-2147483648, 23)], [], some (0, 1), []), 0, 0, 23), (([topA, .inl (0, 2147483647), .inl (-2147483648, 15)], [], some (0, 1), []), 0, 0, 15)]) (Mg := [MetP l 0 yX11_within cX11_within 3 (some .boolean) 0 0, MetP l 0 yX11_within cX11_within 3 (some .boolean) 0 0, MetP l 0 yX11_within cX11_within 3 (some .boolean) 0 0]) (T := ((C_X11_mint_3.1.map some ++ List.replicate (4 - 4) none, [], C_X11_mint_3.2.1) : Tg)) (sl := [(0, 1), (0, 2), (0, 3)]) (q := 27) (x := 0) (L := enL as 4) (st := []) (h := h) hΦ (fun j C e => match j, e with | 0, e => (by cases e; exact s_void) | _ + 1, e => (by cases e)) (fun j g e => match j, e with | 0, e => (by cases e; exact gd_within (0) (7)) | 1, e => (by cases e; exact gd_within (0) (23)) | 2, e => (by cases e; exact gd_within (0) (15)) | _ + 3, e => (by cases e)) (RS := C_X11_mint_3.2.2) (Rv := (fun r h' => ∃ q, q ∈ C_X11_mint_3.2.2 ∧ gR q.1 r ∧ all2 (gC ρ0 τ) q.2 h')) (GR := none) (M := (0, [])) (fun r h' q hq h1 h2 _ => ⟨q, hq, h1, h2⟩) ⟨door ha, trivial, hh⟩ (by decide +kernel)

def P_X11_mint_4 : List Nd := [(1, [], [1, 1]), (0, [0], [2]), (0, [7], [3]), (31, [], [15, 5, 0, 0, 3]), (10, [], [15, 5, 0]), (1, [], [6, 2]), (0, [0], [7]), (0, [23], [8]), (31, [], [15, 10, 1, 0, 3]), (10, [], [15, 10, 0]), (1, [], [11, 3]), (0, [0], [12]), (0, [15], [13]), (31, [], [15, 17, 2, 0, 3]), (10, [], [15, 17, 0]), (0, [0], [16]), (25, [], []), (2, [], [18, 0]), (18, [], [19, 1, 10]), (1, [], [20, 1]), (1, [], [21, 2]), (1, [], [22, 3]), (26, [], [23, 0, 7, 4, 1, 2, 3, 4, 5, 6]), (0, [1], [24]), (25, [], [])]
def C_X11_mint_4 : Con := ([.inr (.inr (some (.inl 0))), .inl (-2147483648, 2147483647), .inl (24, 2147483647), .inl (-2147483648, 2147483647)], hc_a5061c7b5a, [(some (0, 0), hc_a5061c7b5a)])
set_option maxRecDepth 100000 in
theorem s_X11_mint_4 {l : Launch} : conOk (MetP l 2 yX11_mint cX11_mint 4 (some .boolean) 0 0) C_X11_mint_4 := by
  intro τ hΦ as h ha hh
  refine m_X11_mint  (by rw [all2_len ha]; exact Nat.le_of_ble_eq_true rfl) ?_
  · exact run0 (τ := τ) (P := P_X11_mint_4) (CE := []) (CS := [C_void]) (Ms := [MetP l 1 yX7_tellMint cX7_tellMint 4 none 0 0]) (GS := [(([topA, .inl (0, 2147483647), .inl (-2147483648, 7)], [], some (0, 1), []), 0, 0, 7), (([topA, .inl (0, 2147483647), .inl (-2147483648, 23)], [], some (0, 1), []), 0, 0, 23), (([topA, .inl (0, 2147483647), .inl (-2147483648, 15)], [], some (0, 1), []), 0, 0, 15)]) (Mg := [MetP l 0 yX11_within cX11_within 3 (some .boolean) 0 0, MetP l 0 yX11_within cX11_within 3 (some .boolean) 0 0, MetP l 0 yX11_within cX11_within 3 (some .boolean) 0 0]) (T := ((C_X11_mint_4.1.map some ++ List.replicate (4 - 4) none, [], C_X11_mint_4.2.1) : Tg)) (sl := [(0, 1), (0, 2), (0, 3)]) (q := 27) (x := 0) (L := enL as 4) (st := []) (h := h) hΦ (fun j C e => match j, e with | 0, e => (by cases e; exact s_void) | _ + 1, e => (by cases e)) (fun j g e => match j, e with | 0, e => (by cases e; exact gd_within (0) (7)) | 1, e => (by cases e; exact gd_within (0) (23)) | 2, e => (by cases e; exact gd_within (0) (15)) | _ + 3, e => (by cases e)) (RS := C_X11_mint_4.2.2) (Rv := (fun r h' => ∃ q, q ∈ C_X11_mint_4.2.2 ∧ gR q.1 r ∧ all2 (gC ρ0 τ) q.2 h')) (GR := none) (M := (0, [])) (fun r h' q hq h1 h2 _ => ⟨q, hq, h1, h2⟩) ⟨door ha, trivial, hh⟩ (by decide +kernel)

def P_X11_mint_5 : List Nd := [(1, [], [1, 1]), (0, [0], [2]), (0, [7], [3]), (31, [], [15, 5, 0, 0, 3]), (10, [], [15, 5, 0]), (1, [], [6, 2]), (0, [0], [7]), (0, [23], [8]), (31, [], [15, 10, 1, 0, 3]), (10, [], [15, 10, 0]), (1, [], [11, 3]), (0, [0], [12]), (0, [15], [13]), (31, [], [15, 17, 2, 0, 3]), (10, [], [15, 17, 0]), (0, [0], [16]), (25, [], []), (2, [], [18, 0]), (18, [], [19, 1, 10]), (1, [], [20, 1]), (1, [], [21, 2]), (1, [], [22, 3]), (26, [], [23, 0, 7, 4, 1, 2, 3, 4, 5, 6]), (0, [1], [24]), (25, [], [])]
def C_X11_mint_5 : Con := ([.inr (.inr (some (.inl 0))), .inl (-2147483648, 2147483647), .inl (-2147483648, 2147483647), .inl (-2147483648, -1)], hc_a5061c7b5a, [(some (0, 0), hc_a5061c7b5a)])
set_option maxRecDepth 100000 in
theorem s_X11_mint_5 {l : Launch} : conOk (MetP l 2 yX11_mint cX11_mint 4 (some .boolean) 0 0) C_X11_mint_5 := by
  intro τ hΦ as h ha hh
  refine m_X11_mint  (by rw [all2_len ha]; exact Nat.le_of_ble_eq_true rfl) ?_
  · exact run0 (τ := τ) (P := P_X11_mint_5) (CE := []) (CS := [C_void]) (Ms := [MetP l 1 yX7_tellMint cX7_tellMint 4 none 0 0]) (GS := [(([topA, .inl (0, 2147483647), .inl (-2147483648, 7)], [], some (0, 1), []), 0, 0, 7), (([topA, .inl (0, 2147483647), .inl (-2147483648, 23)], [], some (0, 1), []), 0, 0, 23), (([topA, .inl (0, 2147483647), .inl (-2147483648, 15)], [], some (0, 1), []), 0, 0, 15)]) (Mg := [MetP l 0 yX11_within cX11_within 3 (some .boolean) 0 0, MetP l 0 yX11_within cX11_within 3 (some .boolean) 0 0, MetP l 0 yX11_within cX11_within 3 (some .boolean) 0 0]) (T := ((C_X11_mint_5.1.map some ++ List.replicate (4 - 4) none, [], C_X11_mint_5.2.1) : Tg)) (sl := [(0, 1), (0, 2), (0, 3)]) (q := 27) (x := 0) (L := enL as 4) (st := []) (h := h) hΦ (fun j C e => match j, e with | 0, e => (by cases e; exact s_void) | _ + 1, e => (by cases e)) (fun j g e => match j, e with | 0, e => (by cases e; exact gd_within (0) (7)) | 1, e => (by cases e; exact gd_within (0) (23)) | 2, e => (by cases e; exact gd_within (0) (15)) | _ + 3, e => (by cases e)) (RS := C_X11_mint_5.2.2) (Rv := (fun r h' => ∃ q, q ∈ C_X11_mint_5.2.2 ∧ gR q.1 r ∧ all2 (gC ρ0 τ) q.2 h')) (GR := none) (M := (0, [])) (fun r h' q hq h1 h2 _ => ⟨q, hq, h1, h2⟩) ⟨door ha, trivial, hh⟩ (by decide +kernel)

def P_X11_mint_6 : List Nd := [(1, [], [1, 1]), (0, [0], [2]), (0, [7], [3]), (31, [], [15, 5, 0, 0, 3]), (10, [], [15, 5, 0]), (1, [], [6, 2]), (0, [0], [7]), (0, [23], [8]), (31, [], [15, 10, 1, 0, 3]), (10, [], [15, 10, 0]), (1, [], [11, 3]), (0, [0], [12]), (0, [15], [13]), (31, [], [15, 17, 2, 0, 3]), (10, [], [15, 17, 0]), (0, [0], [16]), (25, [], []), (2, [], [18, 0]), (18, [], [19, 1, 10]), (1, [], [20, 1]), (1, [], [21, 2]), (1, [], [22, 3]), (26, [], [23, 0, 7, 4, 1, 2, 3, 4, 5, 6]), (0, [1], [24]), (25, [], [])]
def C_X11_mint_6 : Con := ([.inr (.inr (some (.inl 0))), .inl (-2147483648, 2147483647), .inl (-2147483648, 2147483647), .inl (16, 2147483647)], hc_a5061c7b5a, [(some (0, 0), hc_a5061c7b5a)])
set_option maxRecDepth 100000 in
theorem s_X11_mint_6 {l : Launch} : conOk (MetP l 2 yX11_mint cX11_mint 4 (some .boolean) 0 0) C_X11_mint_6 := by
  intro τ hΦ as h ha hh
  refine m_X11_mint  (by rw [all2_len ha]; exact Nat.le_of_ble_eq_true rfl) ?_
  · exact run0 (τ := τ) (P := P_X11_mint_6) (CE := []) (CS := [C_void]) (Ms := [MetP l 1 yX7_tellMint cX7_tellMint 4 none 0 0]) (GS := [(([topA, .inl (0, 2147483647), .inl (-2147483648, 7)], [], some (0, 1), []), 0, 0, 7), (([topA, .inl (0, 2147483647), .inl (-2147483648, 23)], [], some (0, 1), []), 0, 0, 23), (([topA, .inl (0, 2147483647), .inl (-2147483648, 15)], [], some (0, 1), []), 0, 0, 15)]) (Mg := [MetP l 0 yX11_within cX11_within 3 (some .boolean) 0 0, MetP l 0 yX11_within cX11_within 3 (some .boolean) 0 0, MetP l 0 yX11_within cX11_within 3 (some .boolean) 0 0]) (T := ((C_X11_mint_6.1.map some ++ List.replicate (4 - 4) none, [], C_X11_mint_6.2.1) : Tg)) (sl := [(0, 1), (0, 2), (0, 3)]) (q := 27) (x := 0) (L := enL as 4) (st := []) (h := h) hΦ (fun j C e => match j, e with | 0, e => (by cases e; exact s_void) | _ + 1, e => (by cases e)) (fun j g e => match j, e with | 0, e => (by cases e; exact gd_within (0) (7)) | 1, e => (by cases e; exact gd_within (0) (23)) | 2, e => (by cases e; exact gd_within (0) (15)) | _ + 3, e => (by cases e)) (RS := C_X11_mint_6.2.2) (Rv := (fun r h' => ∃ q, q ∈ C_X11_mint_6.2.2 ∧ gR q.1 r ∧ all2 (gC ρ0 τ) q.2 h')) (GR := none) (M := (0, [])) (fun r h' q hq h1 h2 _ => ⟨q, hq, h1, h2⟩) ⟨door ha, trivial, hh⟩ (by decide +kernel)

def P_X12_mint_1 : List Nd := [(1, [], [1, 1]), (0, [0], [2]), (0, [7], [3]), (31, [], [15, 5, 0, 0, 3]), (10, [], [15, 5, 0]), (1, [], [6, 2]), (0, [0], [7]), (0, [23], [8]), (31, [], [15, 10, 1, 0, 3]), (10, [], [15, 10, 0]), (1, [], [11, 3]), (0, [0], [12]), (0, [15], [13]), (31, [], [15, 17, 2, 0, 3]), (10, [], [15, 17, 0]), (0, [0], [16]), (25, [], []), (2, [], [18, 0]), (18, [], [19, 3, 11]), (1, [], [20, 1]), (0, [24], [21]), (1, [], [22, 3]), (6, [], [23, 2]), (1, [], [24, 2]), (6, [], [25, 0]), (21, [], [26, 0]), (0, [1], [27]), (25, [], [])]
def C_X12_mint_1 : Con := ([.inr (.inr (some (.inl 0))), .inl (-2147483648, -1), .inl (-2147483648, 2147483647), .inl (-2147483648, 2147483647)], hc_6098d72d6a, [(some (0, 0), hc_6098d72d6a)])
set_option maxRecDepth 100000 in
theorem s_X12_mint_1 {l : Launch} : conOk (MetP l 1 yX12_mint cX12_mint 4 (some .boolean) 0 0) C_X12_mint_1 := by
  intro τ hΦ as h ha hh
  refine m_X12_mint  (by rw [all2_len ha]; exact Nat.le_of_ble_eq_true rfl) ?_
  · exact run0 (τ := τ) (P := P_X12_mint_1) (CE := []) (CS := []) (Ms := []) (GS := [(([topA, .inl (0, 2147483647), .inl (-2147483648, 7)], [], some (0, 1), []), 0, 0, 7), (([topA, .inl (0, 2147483647), .inl (-2147483648, 23)], [], some (0, 1), []), 0, 0, 23), (([topA, .inl (0, 2147483647), .inl (-2147483648, 15)], [], some (0, 1), []), 0, 0, 15)]) (Mg := [MetP l 0 yX12_in cX12_in 3 (some .boolean) 0 0, MetP l 0 yX12_in cX12_in 3 (some .boolean) 0 0, MetP l 0 yX12_in cX12_in 3 (some .boolean) 0 0]) (T := ((C_X12_mint_1.1.map some ++ List.replicate (4 - 4) none, [], C_X12_mint_1.2.1) : Tg)) (sl := [(0, 1), (0, 2), (0, 3)]) (q := 30) (x := 0) (L := enL as 4) (st := []) (h := h) hΦ (fun j C e => match j, e with | _ + 0, e => (by cases e)) (fun j g e => match j, e with | 0, e => (by cases e; exact gd_in (0) (7)) | 1, e => (by cases e; exact gd_in (0) (23)) | 2, e => (by cases e; exact gd_in (0) (15)) | _ + 3, e => (by cases e)) (RS := C_X12_mint_1.2.2) (Rv := (fun r h' => ∃ q, q ∈ C_X12_mint_1.2.2 ∧ gR q.1 r ∧ all2 (gC ρ0 τ) q.2 h')) (GR := none) (M := (0, [])) (fun r h' q hq h1 h2 _ => ⟨q, hq, h1, h2⟩) ⟨door ha, trivial, hh⟩ (by decide +kernel)

def P_X12_mint_2 : List Nd := [(1, [], [1, 1]), (0, [0], [2]), (0, [7], [3]), (31, [], [15, 5, 0, 0, 3]), (10, [], [15, 5, 0]), (1, [], [6, 2]), (0, [0], [7]), (0, [23], [8]), (31, [], [15, 10, 1, 0, 3]), (10, [], [15, 10, 0]), (1, [], [11, 3]), (0, [0], [12]), (0, [15], [13]), (31, [], [15, 17, 2, 0, 3]), (10, [], [15, 17, 0]), (0, [0], [16]), (25, [], []), (2, [], [18, 0]), (18, [], [19, 3, 11]), (1, [], [20, 1]), (0, [24], [21]), (1, [], [22, 3]), (6, [], [23, 2]), (1, [], [24, 2]), (6, [], [25, 0]), (21, [], [26, 0]), (0, [1], [27]), (25, [], [])]
def C_X12_mint_2 : Con := ([.inr (.inr (some (.inl 0))), .inl (8, 2147483647), .inl (-2147483648, 2147483647), .inl (-2147483648, 2147483647)], hc_6098d72d6a, [(some (0, 0), hc_6098d72d6a)])
set_option maxRecDepth 100000 in
theorem s_X12_mint_2 {l : Launch} : conOk (MetP l 1 yX12_mint cX12_mint 4 (some .boolean) 0 0) C_X12_mint_2 := by
  intro τ hΦ as h ha hh
  refine m_X12_mint  (by rw [all2_len ha]; exact Nat.le_of_ble_eq_true rfl) ?_
  · exact run0 (τ := τ) (P := P_X12_mint_2) (CE := []) (CS := []) (Ms := []) (GS := [(([topA, .inl (0, 2147483647), .inl (-2147483648, 7)], [], some (0, 1), []), 0, 0, 7), (([topA, .inl (0, 2147483647), .inl (-2147483648, 23)], [], some (0, 1), []), 0, 0, 23), (([topA, .inl (0, 2147483647), .inl (-2147483648, 15)], [], some (0, 1), []), 0, 0, 15)]) (Mg := [MetP l 0 yX12_in cX12_in 3 (some .boolean) 0 0, MetP l 0 yX12_in cX12_in 3 (some .boolean) 0 0, MetP l 0 yX12_in cX12_in 3 (some .boolean) 0 0]) (T := ((C_X12_mint_2.1.map some ++ List.replicate (4 - 4) none, [], C_X12_mint_2.2.1) : Tg)) (sl := [(0, 1), (0, 2), (0, 3)]) (q := 30) (x := 0) (L := enL as 4) (st := []) (h := h) hΦ (fun j C e => match j, e with | _ + 0, e => (by cases e)) (fun j g e => match j, e with | 0, e => (by cases e; exact gd_in (0) (7)) | 1, e => (by cases e; exact gd_in (0) (23)) | 2, e => (by cases e; exact gd_in (0) (15)) | _ + 3, e => (by cases e)) (RS := C_X12_mint_2.2.2) (Rv := (fun r h' => ∃ q, q ∈ C_X12_mint_2.2.2 ∧ gR q.1 r ∧ all2 (gC ρ0 τ) q.2 h')) (GR := none) (M := (0, [])) (fun r h' q hq h1 h2 _ => ⟨q, hq, h1, h2⟩) ⟨door ha, trivial, hh⟩ (by decide +kernel)

def P_X12_mint_3 : List Nd := [(1, [], [1, 1]), (0, [0], [2]), (0, [7], [3]), (31, [], [15, 5, 0, 0, 3]), (10, [], [15, 5, 0]), (1, [], [6, 2]), (0, [0], [7]), (0, [23], [8]), (31, [], [15, 10, 1, 0, 3]), (10, [], [15, 10, 0]), (1, [], [11, 3]), (0, [0], [12]), (0, [15], [13]), (31, [], [15, 17, 2, 0, 3]), (10, [], [15, 17, 0]), (0, [0], [16]), (25, [], []), (2, [], [18, 0]), (18, [], [19, 3, 11]), (1, [], [20, 1]), (0, [24], [21]), (1, [], [22, 3]), (6, [], [23, 2]), (1, [], [24, 2]), (6, [], [25, 0]), (21, [], [26, 0]), (0, [1], [27]), (25, [], [])]
def C_X12_mint_3 : Con := ([.inr (.inr (some (.inl 0))), .inl (-2147483648, 2147483647), .inl (-2147483648, -1), .inl (-2147483648, 2147483647)], hc_6098d72d6a, [(some (0, 0), hc_6098d72d6a)])
set_option maxRecDepth 100000 in
theorem s_X12_mint_3 {l : Launch} : conOk (MetP l 1 yX12_mint cX12_mint 4 (some .boolean) 0 0) C_X12_mint_3 := by
  intro τ hΦ as h ha hh
  refine m_X12_mint  (by rw [all2_len ha]; exact Nat.le_of_ble_eq_true rfl) ?_
  · exact run0 (τ := τ) (P := P_X12_mint_3) (CE := []) (CS := []) (Ms := []) (GS := [(([topA, .inl (0, 2147483647), .inl (-2147483648, 7)], [], some (0, 1), []), 0, 0, 7), (([topA, .inl (0, 2147483647), .inl (-2147483648, 23)], [], some (0, 1), []), 0, 0, 23), (([topA, .inl (0, 2147483647), .inl (-2147483648, 15)], [], some (0, 1), []), 0, 0, 15)]) (Mg := [MetP l 0 yX12_in cX12_in 3 (some .boolean) 0 0, MetP l 0 yX12_in cX12_in 3 (some .boolean) 0 0, MetP l 0 yX12_in cX12_in 3 (some .boolean) 0 0]) (T := ((C_X12_mint_3.1.map some ++ List.replicate (4 - 4) none, [], C_X12_mint_3.2.1) : Tg)) (sl := [(0, 1), (0, 2), (0, 3)]) (q := 30) (x := 0) (L := enL as 4) (st := []) (h := h) hΦ (fun j C e => match j, e with | _ + 0, e => (by cases e)) (fun j g e => match j, e with | 0, e => (by cases e; exact gd_in (0) (7)) | 1, e => (by cases e; exact gd_in (0) (23)) | 2, e => (by cases e; exact gd_in (0) (15)) | _ + 3, e => (by cases e)) (RS := C_X12_mint_3.2.2) (Rv := (fun r h' => ∃ q, q ∈ C_X12_mint_3.2.2 ∧ gR q.1 r ∧ all2 (gC ρ0 τ) q.2 h')) (GR := none) (M := (0, [])) (fun r h' q hq h1 h2 _ => ⟨q, hq, h1, h2⟩) ⟨door ha, trivial, hh⟩ (by decide +kernel)

def P_X12_mint_4 : List Nd := [(1, [], [1, 1]), (0, [0], [2]), (0, [7], [3]), (31, [], [15, 5, 0, 0, 3]), (10, [], [15, 5, 0]), (1, [], [6, 2]), (0, [0], [7]), (0, [23], [8]), (31, [], [15, 10, 1, 0, 3]), (10, [], [15, 10, 0]), (1, [], [11, 3]), (0, [0], [12]), (0, [15], [13]), (31, [], [15, 17, 2, 0, 3]), (10, [], [15, 17, 0]), (0, [0], [16]), (25, [], []), (2, [], [18, 0]), (18, [], [19, 3, 11]), (1, [], [20, 1]), (0, [24], [21]), (1, [], [22, 3]), (6, [], [23, 2]), (1, [], [24, 2]), (6, [], [25, 0]), (21, [], [26, 0]), (0, [1], [27]), (25, [], [])]
def C_X12_mint_4 : Con := ([.inr (.inr (some (.inl 0))), .inl (-2147483648, 2147483647), .inl (24, 2147483647), .inl (-2147483648, 2147483647)], hc_6098d72d6a, [(some (0, 0), hc_6098d72d6a)])
set_option maxRecDepth 100000 in
theorem s_X12_mint_4 {l : Launch} : conOk (MetP l 1 yX12_mint cX12_mint 4 (some .boolean) 0 0) C_X12_mint_4 := by
  intro τ hΦ as h ha hh
  refine m_X12_mint  (by rw [all2_len ha]; exact Nat.le_of_ble_eq_true rfl) ?_
  · exact run0 (τ := τ) (P := P_X12_mint_4) (CE := []) (CS := []) (Ms := []) (GS := [(([topA, .inl (0, 2147483647), .inl (-2147483648, 7)], [], some (0, 1), []), 0, 0, 7), (([topA, .inl (0, 2147483647), .inl (-2147483648, 23)], [], some (0, 1), []), 0, 0, 23), (([topA, .inl (0, 2147483647), .inl (-2147483648, 15)], [], some (0, 1), []), 0, 0, 15)]) (Mg := [MetP l 0 yX12_in cX12_in 3 (some .boolean) 0 0, MetP l 0 yX12_in cX12_in 3 (some .boolean) 0 0, MetP l 0 yX12_in cX12_in 3 (some .boolean) 0 0]) (T := ((C_X12_mint_4.1.map some ++ List.replicate (4 - 4) none, [], C_X12_mint_4.2.1) : Tg)) (sl := [(0, 1), (0, 2), (0, 3)]) (q := 30) (x := 0) (L := enL as 4) (st := []) (h := h) hΦ (fun j C e => match j, e with | _ + 0, e => (by cases e)) (fun j g e => match j, e with | 0, e => (by cases e; exact gd_in (0) (7)) | 1, e => (by cases e; exact gd_in (0) (23)) | 2, e => (by cases e; exact gd_in (0) (15)) | _ + 3, e => (by cases e)) (RS := C_X12_mint_4.2.2) (Rv := (fun r h' => ∃ q, q ∈ C_X12_mint_4.2.2 ∧ gR q.1 r ∧ all2 (gC ρ0 τ) q.2 h')) (GR := none) (M := (0, [])) (fun r h' q hq h1 h2 _ => ⟨q, hq, h1, h2⟩) ⟨door ha, trivial, hh⟩ (by decide +kernel)

def P_X12_mint_5 : List Nd := [(1, [], [1, 1]), (0, [0], [2]), (0, [7], [3]), (31, [], [15, 5, 0, 0, 3]), (10, [], [15, 5, 0]), (1, [], [6, 2]), (0, [0], [7]), (0, [23], [8]), (31, [], [15, 10, 1, 0, 3]), (10, [], [15, 10, 0]), (1, [], [11, 3]), (0, [0], [12]), (0, [15], [13]), (31, [], [15, 17, 2, 0, 3]), (10, [], [15, 17, 0]), (0, [0], [16]), (25, [], []), (2, [], [18, 0]), (18, [], [19, 3, 11]), (1, [], [20, 1]), (0, [24], [21]), (1, [], [22, 3]), (6, [], [23, 2]), (1, [], [24, 2]), (6, [], [25, 0]), (21, [], [26, 0]), (0, [1], [27]), (25, [], [])]
def C_X12_mint_5 : Con := ([.inr (.inr (some (.inl 0))), .inl (-2147483648, 2147483647), .inl (-2147483648, 2147483647), .inl (-2147483648, -1)], hc_6098d72d6a, [(some (0, 0), hc_6098d72d6a)])
set_option maxRecDepth 100000 in
theorem s_X12_mint_5 {l : Launch} : conOk (MetP l 1 yX12_mint cX12_mint 4 (some .boolean) 0 0) C_X12_mint_5 := by
  intro τ hΦ as h ha hh
  refine m_X12_mint  (by rw [all2_len ha]; exact Nat.le_of_ble_eq_true rfl) ?_
  · exact run0 (τ := τ) (P := P_X12_mint_5) (CE := []) (CS := []) (Ms := []) (GS := [(([topA, .inl (0, 2147483647), .inl (-2147483648, 7)], [], some (0, 1), []), 0, 0, 7), (([topA, .inl (0, 2147483647), .inl (-2147483648, 23)], [], some (0, 1), []), 0, 0, 23), (([topA, .inl (0, 2147483647), .inl (-2147483648, 15)], [], some (0, 1), []), 0, 0, 15)]) (Mg := [MetP l 0 yX12_in cX12_in 3 (some .boolean) 0 0, MetP l 0 yX12_in cX12_in 3 (some .boolean) 0 0, MetP l 0 yX12_in cX12_in 3 (some .boolean) 0 0]) (T := ((C_X12_mint_5.1.map some ++ List.replicate (4 - 4) none, [], C_X12_mint_5.2.1) : Tg)) (sl := [(0, 1), (0, 2), (0, 3)]) (q := 30) (x := 0) (L := enL as 4) (st := []) (h := h) hΦ (fun j C e => match j, e with | _ + 0, e => (by cases e)) (fun j g e => match j, e with | 0, e => (by cases e; exact gd_in (0) (7)) | 1, e => (by cases e; exact gd_in (0) (23)) | 2, e => (by cases e; exact gd_in (0) (15)) | _ + 3, e => (by cases e)) (RS := C_X12_mint_5.2.2) (Rv := (fun r h' => ∃ q, q ∈ C_X12_mint_5.2.2 ∧ gR q.1 r ∧ all2 (gC ρ0 τ) q.2 h')) (GR := none) (M := (0, [])) (fun r h' q hq h1 h2 _ => ⟨q, hq, h1, h2⟩) ⟨door ha, trivial, hh⟩ (by decide +kernel)

def P_X12_mint_6 : List Nd := [(1, [], [1, 1]), (0, [0], [2]), (0, [7], [3]), (31, [], [15, 5, 0, 0, 3]), (10, [], [15, 5, 0]), (1, [], [6, 2]), (0, [0], [7]), (0, [23], [8]), (31, [], [15, 10, 1, 0, 3]), (10, [], [15, 10, 0]), (1, [], [11, 3]), (0, [0], [12]), (0, [15], [13]), (31, [], [15, 17, 2, 0, 3]), (10, [], [15, 17, 0]), (0, [0], [16]), (25, [], []), (2, [], [18, 0]), (18, [], [19, 3, 11]), (1, [], [20, 1]), (0, [24], [21]), (1, [], [22, 3]), (6, [], [23, 2]), (1, [], [24, 2]), (6, [], [25, 0]), (21, [], [26, 0]), (0, [1], [27]), (25, [], [])]
def C_X12_mint_6 : Con := ([.inr (.inr (some (.inl 0))), .inl (-2147483648, 2147483647), .inl (-2147483648, 2147483647), .inl (16, 2147483647)], hc_6098d72d6a, [(some (0, 0), hc_6098d72d6a)])
set_option maxRecDepth 100000 in
theorem s_X12_mint_6 {l : Launch} : conOk (MetP l 1 yX12_mint cX12_mint 4 (some .boolean) 0 0) C_X12_mint_6 := by
  intro τ hΦ as h ha hh
  refine m_X12_mint  (by rw [all2_len ha]; exact Nat.le_of_ble_eq_true rfl) ?_
  · exact run0 (τ := τ) (P := P_X12_mint_6) (CE := []) (CS := []) (Ms := []) (GS := [(([topA, .inl (0, 2147483647), .inl (-2147483648, 7)], [], some (0, 1), []), 0, 0, 7), (([topA, .inl (0, 2147483647), .inl (-2147483648, 23)], [], some (0, 1), []), 0, 0, 23), (([topA, .inl (0, 2147483647), .inl (-2147483648, 15)], [], some (0, 1), []), 0, 0, 15)]) (Mg := [MetP l 0 yX12_in cX12_in 3 (some .boolean) 0 0, MetP l 0 yX12_in cX12_in 3 (some .boolean) 0 0, MetP l 0 yX12_in cX12_in 3 (some .boolean) 0 0]) (T := ((C_X12_mint_6.1.map some ++ List.replicate (4 - 4) none, [], C_X12_mint_6.2.1) : Tg)) (sl := [(0, 1), (0, 2), (0, 3)]) (q := 30) (x := 0) (L := enL as 4) (st := []) (h := h) hΦ (fun j C e => match j, e with | _ + 0, e => (by cases e)) (fun j g e => match j, e with | 0, e => (by cases e; exact gd_in (0) (7)) | 1, e => (by cases e; exact gd_in (0) (23)) | 2, e => (by cases e; exact gd_in (0) (15)) | _ + 3, e => (by cases e)) (RS := C_X12_mint_6.2.2) (Rv := (fun r h' => ∃ q, q ∈ C_X12_mint_6.2.2 ∧ gR q.1 r ∧ all2 (gC ρ0 τ) q.2 h')) (GR := none) (M := (0, [])) (fun r h' q hq h1 h2 _ => ⟨q, hq, h1, h2⟩) ⟨door ha, trivial, hh⟩ (by decide +kernel)

/-! ===== rows with exact answers ===== -/
def upL (τ : Nat → List (Option Nat)) (k : Nat) (l : List (Option Nat)) (t : Nat) : List (Option Nat) := match Nat.beq t k with
  | true => l
  | false => τ t
theorem upL_ne {τ : Nat → List (Option Nat)} {k t : Nat} {l : List (Option Nat)} (h : t ≠ k) : upL τ k l t = τ t := by
  unfold upL
  cases e : Nat.beq t k
  · rfl
  · exact absurd (Nat.eq_of_beq_eq_true e) h
theorem upL_at {τ : Nat → List (Option Nat)} {k : Nat} {l : List (Option Nat)} : upL τ k l k = l := by
  unfold upL
  rw [Nat.beq_refl]
theorem ch_ne {t k : Nat} (h : (Nat.ble 100 t && Nat.beq t k) = false) (hk : Nat.ble 100 k = true) : t ≠ k := fun z => by
  subst z
  rw [hk, Nat.beq_refl] at h
  cases h
theorem sq_4 : ∀ n, n ≤ 4 → n * n ≤ 16 := by decide
theorem sq_6 : ∀ n, n ≤ 6 → n * n ≤ 36 := by decide
theorem of_7 {τ : Nat → List (Option Nat)} {n : Nat} {f : Nat → Int32} (b : f 0 = 0) : ∀ i, i < n → (sel 700 i = true → (0 : Int) ≤ (f i).toInt ∧ (f i).toInt ≤ 0) ∧ (700 = 5 → f i = decA (τ (0 : Int).toNat) i) ∧ (Nat.ble 10 700 = true → g3 τ 700 i (f i)) := fun i _ => ⟨fun z => by
  have q : i + 700 = 700 := Nat.eq_of_beq_eq_true z
  rw [show i = 0 by omega, b]
  exact ⟨by decide, by decide⟩, fun z => absurd z (by decide), fun _ => g3_m rfl rfl⟩

def HX_feedC (c : Nat) : List AC := [.inr (10, [.inr (.inr (some (.inl 1))), .inr (.inr (some (.inr 0))), .inr (.inr (some (.inr 1))), .inr (.inr (some (.inr 2))), .inr (.inr (some (.inr 3))), .inr (.inr (some (.inr 4))), .inr (.inr (some (.inr 5))), .inr (.inr (some (.inr 6))), .inr (.inr (some (.inr 7))), .inr (.inr (some (.inr 8))), .inr (.inr (some (.inr 9))), .inr (.inr (some (.inr 10))), .inr (.inr (some (.inr 11))), .inr (.inr (some (.inr 12))), .inr (.inr (some (.inr 201)))]), .inr (9, [.inr (.inr (some (.inl 2))), .inl ((((c : Nat) : Int) : Int), (((c : Nat) : Int) : Int))]), .inl (1000, 260, 0, 255)]
def HY_feedC (c : Nat) : List AC := [.inr (10, [.inr (.inr (some (.inl 1))), .inr (.inr (some (.inr 0))), .inr (.inr (some (.inr 1))), .inr (.inr (some (.inr 2))), .inr (.inr (some (.inr 3))), .inr (.inr (some (.inr 4))), .inr (.inr (some (.inr 5))), .inr (.inr (some (.inr 6))), .inr (.inr (some (.inr 7))), .inr (.inr (some (.inr 8))), .inr (.inr (some (.inr 9))), .inr (.inr (some (.inr 10))), .inr (.inr (some (.inr 11))), .inr (.inr (some (.inr 12))), .inr (.inr (some (.inr 201)))]), .inr (9, [.inr (.inr (some (.inl 2))), .inl ((((c + 20 : Nat) : Int) : Int), (((c + 20 : Nat) : Int) : Int))]), .inl (1000, 260, 0, 255)]
def HN_feedC : List AC := [.inr (10, [.inr (.inr (some (.inl 1))), .inr (.inr (some (.inr 0))), .inr (.inr (some (.inr 1))), .inr (.inr (some (.inr 2))), .inr (.inr (some (.inr 3))), .inr (.inr (some (.inr 4))), .inr (.inr (some (.inr 5))), .inr (.inr (some (.inr 6))), .inr (.inr (some (.inr 7))), .inr (.inr (some (.inr 8))), .inr (.inr (some (.inr 9))), .inr (.inr (some (.inr 10))), .inr (.inr (some (.inr 11))), .inr (.inr (some (.inr 12))), .inr (.inr (some (.inr 201)))]), .inr (9, [.inr (.inr (some (.inl 2))), .inl (260, 260)]), .inl (1000, 260, 0, 255)]
set_option maxRecDepth 100000 in
theorem x_feedC {l : Launch} {c : Nat} {a b d e f : Int32} (hc : c + 20 ≤ 260) : conOkX (MetP l 2 yX11_feed cX11_feed 6 (some .int) 0 0) [a, b, d, e, f] (HX_feedC c) (HY_feedC c) (fun t => Nat.beq t 250) (fun _ => True) (fun τ τ' y => y = nI (c + 20) ∧ ∃ F : Nat → Int32, (∀ i, i < 260 → F i = decA (τ 250) i) ∧ ∀ i, i < 260 → decA (τ' 250) i = fdC F c a b d e f i) := by
  intro τ hΦ hP h hh
  have z := all2_cons hh
  clear hh
  obtain ⟨e0, h, rfl, g0, hh⟩ := z
  rcases e0 with ⟨t0, n0, f0⟩ | ⟨ci, fs⟩
  · exact g0.elim
  obtain ⟨rfl, gf⟩ := g0
  have z := all2_cons gf
  clear gf
  obtain ⟨v0, fs, rfl, q0, gf⟩ := z
  cases (q0 : v0 = .inr (some (.inl 1)))
  have z := all2_cons gf
  clear gf
  obtain ⟨v0, fs, rfl, q0, gf⟩ := z
  cases gT_r (τ := τ) (t := 0) (v := v0) rfl q0
  have z := all2_cons gf
  clear gf
  obtain ⟨v0, fs, rfl, q0, gf⟩ := z
  cases gT_r (τ := τ) (t := 1) (v := v0) rfl q0
  have z := all2_cons gf
  clear gf
  obtain ⟨v0, fs, rfl, q0, gf⟩ := z
  cases gT_r (τ := τ) (t := 2) (v := v0) rfl q0
  have z := all2_cons gf
  clear gf
  obtain ⟨v0, fs, rfl, q0, gf⟩ := z
  cases gT_r (τ := τ) (t := 3) (v := v0) rfl q0
  have z := all2_cons gf
  clear gf
  obtain ⟨v0, fs, rfl, q0, gf⟩ := z
  cases gT_r (τ := τ) (t := 4) (v := v0) rfl q0
  have z := all2_cons gf
  clear gf
  obtain ⟨v0, fs, rfl, q0, gf⟩ := z
  cases gT_r (τ := τ) (t := 5) (v := v0) rfl q0
  have z := all2_cons gf
  clear gf
  obtain ⟨v0, fs, rfl, q0, gf⟩ := z
  cases gT_r (τ := τ) (t := 6) (v := v0) rfl q0
  have z := all2_cons gf
  clear gf
  obtain ⟨v0, fs, rfl, q0, gf⟩ := z
  cases gT_r (τ := τ) (t := 7) (v := v0) rfl q0
  have z := all2_cons gf
  clear gf
  obtain ⟨v0, fs, rfl, q0, gf⟩ := z
  cases gT_r (τ := τ) (t := 8) (v := v0) rfl q0
  have z := all2_cons gf
  clear gf
  obtain ⟨v0, fs, rfl, q0, gf⟩ := z
  cases gT_r (τ := τ) (t := 9) (v := v0) rfl q0
  have z := all2_cons gf
  clear gf
  obtain ⟨v0, fs, rfl, q0, gf⟩ := z
  cases gT_r (τ := τ) (t := 10) (v := v0) rfl q0
  have z := all2_cons gf
  clear gf
  obtain ⟨v0, fs, rfl, q0, gf⟩ := z
  cases gT_r (τ := τ) (t := 11) (v := v0) rfl q0
  have z := all2_cons gf
  clear gf
  obtain ⟨v0, fs, rfl, q0, gf⟩ := z
  cases gT_r (τ := τ) (t := 12) (v := v0) rfl q0
  have z := all2_cons gf
  clear gf
  obtain ⟨v0, fs, rfl, q0, gf⟩ := z
  obtain ⟨HS_wasKept, rfl, e_HS_wasKept, b_HS_wasKept⟩ := gT_x (τ := τ) (t := 201) (v := v0) rfl q0
  cases fs with
  | cons _ _ => exact gf.elim
  | nil =>
    have z := all2_cons hh
    clear hh
    obtain ⟨e0, h, rfl, g0, hh⟩ := z
    rcases e0 with ⟨t0, n0, f0⟩ | ⟨ci, fs⟩
    · exact g0.elim
    obtain ⟨rfl, gf⟩ := g0
    have z := all2_cons gf
    clear gf
    obtain ⟨v0, fs, rfl, q0, gf⟩ := z
    cases (q0 : v0 = .inr (some (.inl 2)))
    have z := all2_cons gf
    clear gf
    obtain ⟨v0, fs, rfl, q0, gf⟩ := z
    obtain ⟨Tape_size, rfl, b_Tape_size⟩ := q0
    cases fs with
    | cons _ _ => exact gf.elim
    | nil =>
      have z := all2_cons hh
      clear hh
      obtain ⟨e1, h, rfl, g1, hh⟩ := z
      rcases e1 with ⟨t1, n1, Tape_bytes⟩ | ⟨ci, fs⟩
      rotate_left
      · exact g1.elim
      obtain ⟨et, en, b_Tape_bytes⟩ := g1
      cases (et : t1 = 0)
      cases en
      cases h with
      | cons _ _ => exact hh.elim
      | nil =>
        obtain ⟨s, hs, rfl⟩ := rng_n (x := Tape_size) (k := 260) (by omega) (by omega)
        have es := sz_n (c := s) (by omega)
        obtain rfl : s = c := by omega
        obtain ⟨rF, eF⟩ := rg_x rfl b_Tape_bytes
        refine (c_X11_feed hc).mono (fun r h' hp => ?_)
        obtain ⟨rfl, rfl⟩ := hp
        exact ⟨upL τ 250 (encA (fdC Tape_bytes s a b d e f) 260), nI (s + 20), hΦ, fun t ht => upL_ne (ch_ne ht rfl), rfl, ⟨rfl, Tape_bytes, eF, fun i hi => by rw [upL_at]; exact encA_ok hi⟩, ⟨⟨rfl, rfl, rfl, rfl, rfl, rfl, rfl, rfl, rfl, rfl, rfl, rfl, rfl, rfl, rfl, gT_mk rfl e_HS_wasKept b_HS_wasKept, trivial⟩, ⟨rfl, rfl, ⟨_, rfl, sz_n (by omega)⟩, trivial⟩, ⟨rfl, rfl, of_x rfl (fdC_rg rF) (fun i hi => (encA_ok hi).symm)⟩, trivial⟩⟩

set_option maxRecDepth 100000 in
theorem n_feedC {l : Launch} {a b d e f : Int32} : conOkX (MetP l 2 yX11_feed cX11_feed 6 (some .int) 0 0) [a, b, d, e, f] HN_feedC HN_feedC (fun _ => false) (fun _ => True) (fun _ _ y => y = -1) := by
  intro τ hΦ hP h hh
  have z := all2_cons hh
  clear hh
  obtain ⟨e0, h, rfl, g0, hh⟩ := z
  rcases e0 with ⟨t0, n0, f0⟩ | ⟨ci, fs⟩
  · exact g0.elim
  obtain ⟨rfl, gf⟩ := g0
  have z := all2_cons gf
  clear gf
  obtain ⟨v0, fs, rfl, q0, gf⟩ := z
  cases (q0 : v0 = .inr (some (.inl 1)))
  have z := all2_cons gf
  clear gf
  obtain ⟨v0, fs, rfl, q0, gf⟩ := z
  cases gT_r (τ := τ) (t := 0) (v := v0) rfl q0
  have z := all2_cons gf
  clear gf
  obtain ⟨v0, fs, rfl, q0, gf⟩ := z
  cases gT_r (τ := τ) (t := 1) (v := v0) rfl q0
  have z := all2_cons gf
  clear gf
  obtain ⟨v0, fs, rfl, q0, gf⟩ := z
  cases gT_r (τ := τ) (t := 2) (v := v0) rfl q0
  have z := all2_cons gf
  clear gf
  obtain ⟨v0, fs, rfl, q0, gf⟩ := z
  cases gT_r (τ := τ) (t := 3) (v := v0) rfl q0
  have z := all2_cons gf
  clear gf
  obtain ⟨v0, fs, rfl, q0, gf⟩ := z
  cases gT_r (τ := τ) (t := 4) (v := v0) rfl q0
  have z := all2_cons gf
  clear gf
  obtain ⟨v0, fs, rfl, q0, gf⟩ := z
  cases gT_r (τ := τ) (t := 5) (v := v0) rfl q0
  have z := all2_cons gf
  clear gf
  obtain ⟨v0, fs, rfl, q0, gf⟩ := z
  cases gT_r (τ := τ) (t := 6) (v := v0) rfl q0
  have z := all2_cons gf
  clear gf
  obtain ⟨v0, fs, rfl, q0, gf⟩ := z
  cases gT_r (τ := τ) (t := 7) (v := v0) rfl q0
  have z := all2_cons gf
  clear gf
  obtain ⟨v0, fs, rfl, q0, gf⟩ := z
  cases gT_r (τ := τ) (t := 8) (v := v0) rfl q0
  have z := all2_cons gf
  clear gf
  obtain ⟨v0, fs, rfl, q0, gf⟩ := z
  cases gT_r (τ := τ) (t := 9) (v := v0) rfl q0
  have z := all2_cons gf
  clear gf
  obtain ⟨v0, fs, rfl, q0, gf⟩ := z
  cases gT_r (τ := τ) (t := 10) (v := v0) rfl q0
  have z := all2_cons gf
  clear gf
  obtain ⟨v0, fs, rfl, q0, gf⟩ := z
  cases gT_r (τ := τ) (t := 11) (v := v0) rfl q0
  have z := all2_cons gf
  clear gf
  obtain ⟨v0, fs, rfl, q0, gf⟩ := z
  cases gT_r (τ := τ) (t := 12) (v := v0) rfl q0
  have z := all2_cons gf
  clear gf
  obtain ⟨v0, fs, rfl, q0, gf⟩ := z
  obtain ⟨HS_wasKept, rfl, e_HS_wasKept, b_HS_wasKept⟩ := gT_x (τ := τ) (t := 201) (v := v0) rfl q0
  cases fs with
  | cons _ _ => exact gf.elim
  | nil =>
    have z := all2_cons hh
    clear hh
    obtain ⟨e0, h, rfl, g0, hh⟩ := z
    rcases e0 with ⟨t0, n0, f0⟩ | ⟨ci, fs⟩
    · exact g0.elim
    obtain ⟨rfl, gf⟩ := g0
    have z := all2_cons gf
    clear gf
    obtain ⟨v0, fs, rfl, q0, gf⟩ := z
    cases (q0 : v0 = .inr (some (.inl 2)))
    have z := all2_cons gf
    clear gf
    obtain ⟨v0, fs, rfl, q0, gf⟩ := z
    obtain ⟨Tape_size, rfl, b_Tape_size⟩ := q0
    cases fs with
    | cons _ _ => exact gf.elim
    | nil =>
      have z := all2_cons hh
      clear hh
      obtain ⟨e1, h, rfl, g1, hh⟩ := z
      rcases e1 with ⟨t1, n1, Tape_bytes⟩ | ⟨ci, fs⟩
      rotate_left
      · exact g1.elim
      obtain ⟨et, en, b_Tape_bytes⟩ := g1
      cases (et : t1 = 0)
      cases en
      cases h with
      | cons _ _ => exact hh.elim
      | nil =>
        obtain rfl : Tape_size = nI 260 := i32eq.mpr (show Tape_size.toInt = 260 by omega)
        refine n_X11_feed.mono (fun r h' hp => ?_)
        obtain ⟨rfl, rfl⟩ := hp
        exact ⟨τ, -1, hΦ, fun _ _ => rfl, rfl, rfl, ⟨⟨rfl, rfl, rfl, rfl, rfl, rfl, rfl, rfl, rfl, rfl, rfl, rfl, rfl, rfl, rfl, gT_mk rfl e_HS_wasKept b_HS_wasKept, trivial⟩, ⟨rfl, rfl, ⟨_, rfl, b_Tape_size⟩, trivial⟩, ⟨rfl, rfl, b_Tape_bytes⟩, trivial⟩⟩

def HX_feedR (c : Nat) : List AC := [.inr (11, [.inr (.inr (some (.inr 0))), .inr (.inr (some (.inr 1))), .inr (.inr (some (.inr 2))), .inr (.inr (some (.inr 3))), .inr (.inr (some (.inr 4))), .inr (.inr (some (.inr 5))), .inr (.inr (some (.inr 6))), .inr (.inr (some (.inr 7))), .inr (.inr (some (.inr 205))), .inr (.inr (some (.inl 1))), .inl ((((c : Nat) : Int) : Int), (((c : Nat) : Int) : Int)), .inl (0, 240), .inl (0, 240), .inl (-2147483648, 2147483647), .inl (-2147483648, 2147483647), .inl (-2147483648, 2147483647), .inl (0, 260), .inl (0, 260), .inl (0, 16), .inr (.inr (some (.inr 200))), .inr (.inr (some (.inr 8))), .inr (.inr (some (.inr 9))), .inr (.inr (some (.inr 10))), .inr (.inr (some (.inr 11))), .inr (.inr (some (.inr 12))), .inr (.inr (some (.inr 13))), .inr (.inr (some (.inr 14))), .inr (.inr (some (.inr 15))), .inr (.inr (some (.inr 16))), .inr (.inr (some (.inr 17))), .inr (.inr (some (.inr 18))), .inr (.inr (some (.inr 19))), .inr (.inr (some (.inr 20))), .inr (.inr (some (.inr 21))), .inr (.inr (some (.inr 22))), .inr (.inr (some (.inr 23))), .inr (.inr (some (.inr 24))), .inl (-2147483648, 2147483647), .inl (-2147483648, 2147483647), .inl (-2147483648, 2147483647), .inl (-2147483648, 2147483647), .inl (-2147483648, 2147483647), .inl (-2147483648, 2147483647), .inl (-2147483648, 2147483647), .inl (-2147483648, 2147483647), .inl (-2147483648, 2147483647), .inl (-2147483648, 2147483647), .inr (.inr (some (.inr 25))), .inr (.inr (some (.inr 26))), .inr (.inr (some (.inr 27))), .inr (.inr (some (.inr 28))), .inr (.inr (some (.inr 29))), .inr (.inr (some (.inr 201)))]), .inl (1005, 260, -128, 127)]
def HY_feedR (c : Nat) : List AC := [.inr (11, [.inr (.inr (some (.inr 0))), .inr (.inr (some (.inr 1))), .inr (.inr (some (.inr 2))), .inr (.inr (some (.inr 3))), .inr (.inr (some (.inr 4))), .inr (.inr (some (.inr 5))), .inr (.inr (some (.inr 6))), .inr (.inr (some (.inr 7))), .inr (.inr (some (.inr 205))), .inr (.inr (some (.inl 1))), .inl ((((c + 20 : Nat) : Int) : Int), (((c + 20 : Nat) : Int) : Int)), .inl (0, 240), .inl (0, 240), .inl (-2147483648, 2147483647), .inl (-2147483648, 2147483647), .inl (-2147483648, 2147483647), .inl (0, 260), .inl (0, 260), .inl (0, 16), .inr (.inr (some (.inr 200))), .inr (.inr (some (.inr 8))), .inr (.inr (some (.inr 9))), .inr (.inr (some (.inr 10))), .inr (.inr (some (.inr 11))), .inr (.inr (some (.inr 12))), .inr (.inr (some (.inr 13))), .inr (.inr (some (.inr 14))), .inr (.inr (some (.inr 15))), .inr (.inr (some (.inr 16))), .inr (.inr (some (.inr 17))), .inr (.inr (some (.inr 18))), .inr (.inr (some (.inr 19))), .inr (.inr (some (.inr 20))), .inr (.inr (some (.inr 21))), .inr (.inr (some (.inr 22))), .inr (.inr (some (.inr 23))), .inr (.inr (some (.inr 24))), .inl (-2147483648, 2147483647), .inl (-2147483648, 2147483647), .inl (-2147483648, 2147483647), .inl (-2147483648, 2147483647), .inl (-2147483648, 2147483647), .inl (-2147483648, 2147483647), .inl (-2147483648, 2147483647), .inl (-2147483648, 2147483647), .inl (-2147483648, 2147483647), .inl (-2147483648, 2147483647), .inr (.inr (some (.inr 25))), .inr (.inr (some (.inr 26))), .inr (.inr (some (.inr 27))), .inr (.inr (some (.inr 28))), .inr (.inr (some (.inr 29))), .inr (.inr (some (.inr 201)))]), .inl (1005, 260, -128, 127)]
def HN_feedR : List AC := [.inr (11, [.inr (.inr (some (.inr 0))), .inr (.inr (some (.inr 1))), .inr (.inr (some (.inr 2))), .inr (.inr (some (.inr 3))), .inr (.inr (some (.inr 4))), .inr (.inr (some (.inr 5))), .inr (.inr (some (.inr 6))), .inr (.inr (some (.inr 7))), .inr (.inr (some (.inr 205))), .inr (.inr (some (.inl 1))), .inl (260, 260), .inl (0, 240), .inl (0, 240), .inl (-2147483648, 2147483647), .inl (-2147483648, 2147483647), .inl (-2147483648, 2147483647), .inl (0, 260), .inl (0, 260), .inl (0, 16), .inr (.inr (some (.inr 200))), .inr (.inr (some (.inr 8))), .inr (.inr (some (.inr 9))), .inr (.inr (some (.inr 10))), .inr (.inr (some (.inr 11))), .inr (.inr (some (.inr 12))), .inr (.inr (some (.inr 13))), .inr (.inr (some (.inr 14))), .inr (.inr (some (.inr 15))), .inr (.inr (some (.inr 16))), .inr (.inr (some (.inr 17))), .inr (.inr (some (.inr 18))), .inr (.inr (some (.inr 19))), .inr (.inr (some (.inr 20))), .inr (.inr (some (.inr 21))), .inr (.inr (some (.inr 22))), .inr (.inr (some (.inr 23))), .inr (.inr (some (.inr 24))), .inl (-2147483648, 2147483647), .inl (-2147483648, 2147483647), .inl (-2147483648, 2147483647), .inl (-2147483648, 2147483647), .inl (-2147483648, 2147483647), .inl (-2147483648, 2147483647), .inl (-2147483648, 2147483647), .inl (-2147483648, 2147483647), .inl (-2147483648, 2147483647), .inl (-2147483648, 2147483647), .inr (.inr (some (.inr 25))), .inr (.inr (some (.inr 26))), .inr (.inr (some (.inr 27))), .inr (.inr (some (.inr 28))), .inr (.inr (some (.inr 29))), .inr (.inr (some (.inr 201)))]), .inl (1005, 260, -128, 127)]
set_option maxRecDepth 100000 in
theorem x_feedR {l : Launch} {c : Nat} {a b d e f : Int32} (hc : c + 20 ≤ 260) : conOkX (MetP l 1 yX12_feed cX12_feed 6 (some .int) 0 0) [a, b, d, e, f] (HX_feedR c) (HY_feedR c) (fun t => Nat.beq t 251) (fun _ => True) (fun τ τ' y => y = nI (c + 20) ∧ ∃ F : Nat → Int32, (∀ i, i < 260 → F i = decA (τ 251) i) ∧ ∀ i, i < 260 → decA (τ' 251) i = fdR F c a b d e f i) := by
  intro τ hΦ hP h hh
  have z := all2_cons hh
  clear hh
  obtain ⟨e0, h, rfl, g0, hh⟩ := z
  rcases e0 with ⟨t0, n0, f0⟩ | ⟨ci, fs⟩
  · exact g0.elim
  obtain ⟨rfl, gf⟩ := g0
  have z := all2_cons gf
  clear gf
  obtain ⟨v0, fs, rfl, q0, gf⟩ := z
  cases gT_r (τ := τ) (t := 0) (v := v0) rfl q0
  have z := all2_cons gf
  clear gf
  obtain ⟨v0, fs, rfl, q0, gf⟩ := z
  cases gT_r (τ := τ) (t := 1) (v := v0) rfl q0
  have z := all2_cons gf
  clear gf
  obtain ⟨v0, fs, rfl, q0, gf⟩ := z
  cases gT_r (τ := τ) (t := 2) (v := v0) rfl q0
  have z := all2_cons gf
  clear gf
  obtain ⟨v0, fs, rfl, q0, gf⟩ := z
  cases gT_r (τ := τ) (t := 3) (v := v0) rfl q0
  have z := all2_cons gf
  clear gf
  obtain ⟨v0, fs, rfl, q0, gf⟩ := z
  cases gT_r (τ := τ) (t := 4) (v := v0) rfl q0
  have z := all2_cons gf
  clear gf
  obtain ⟨v0, fs, rfl, q0, gf⟩ := z
  cases gT_r (τ := τ) (t := 5) (v := v0) rfl q0
  have z := all2_cons gf
  clear gf
  obtain ⟨v0, fs, rfl, q0, gf⟩ := z
  cases gT_r (τ := τ) (t := 6) (v := v0) rfl q0
  have z := all2_cons gf
  clear gf
  obtain ⟨v0, fs, rfl, q0, gf⟩ := z
  cases gT_r (τ := τ) (t := 7) (v := v0) rfl q0
  have z := all2_cons gf
  clear gf
  obtain ⟨v0, fs, rfl, q0, gf⟩ := z
  obtain ⟨M_stampMany, rfl, e_M_stampMany, b_M_stampMany⟩ := gT_x (τ := τ) (t := 205) (v := v0) rfl q0
  have z := all2_cons gf
  clear gf
  obtain ⟨v0, fs, rfl, q0, gf⟩ := z
  cases (q0 : v0 = .inr (some (.inl 1)))
  have z := all2_cons gf
  clear gf
  obtain ⟨v0, fs, rfl, q0, gf⟩ := z
  obtain ⟨M_taped, rfl, b_M_taped⟩ := q0
  have z := all2_cons gf
  clear gf
  obtain ⟨v0, fs, rfl, q0, gf⟩ := z
  obtain ⟨M_place0, rfl, b_M_place0⟩ := q0
  have z := all2_cons gf
  clear gf
  obtain ⟨v0, fs, rfl, q0, gf⟩ := z
  obtain ⟨M_length0, rfl, b_M_length0⟩ := q0
  have z := all2_cons gf
  clear gf
  obtain ⟨v0, fs, rfl, q0, gf⟩ := z
  obtain ⟨M_fault, rfl, b_M_fault⟩ := q0
  have z := all2_cons gf
  clear gf
  obtain ⟨v0, fs, rfl, q0, gf⟩ := z
  obtain ⟨M_number0, rfl, b_M_number0⟩ := q0
  have z := all2_cons gf
  clear gf
  obtain ⟨v0, fs, rfl, q0, gf⟩ := z
  obtain ⟨M_open, rfl, b_M_open⟩ := q0
  have z := all2_cons gf
  clear gf
  obtain ⟨v0, fs, rfl, q0, gf⟩ := z
  obtain ⟨M_codeMany, rfl, b_M_codeMany⟩ := q0
  have z := all2_cons gf
  clear gf
  obtain ⟨v0, fs, rfl, q0, gf⟩ := z
  obtain ⟨M_waiting, rfl, b_M_waiting⟩ := q0
  have z := all2_cons gf
  clear gf
  obtain ⟨v0, fs, rfl, q0, gf⟩ := z
  obtain ⟨M_saidMany, rfl, b_M_saidMany⟩ := q0
  have z := all2_cons gf
  clear gf
  obtain ⟨v0, fs, rfl, q0, gf⟩ := z
  obtain ⟨M_clauses, rfl, e_M_clauses, b_M_clauses⟩ := gT_x (τ := τ) (t := 200) (v := v0) rfl q0
  have z := all2_cons gf
  clear gf
  obtain ⟨v0, fs, rfl, q0, gf⟩ := z
  cases gT_r (τ := τ) (t := 8) (v := v0) rfl q0
  have z := all2_cons gf
  clear gf
  obtain ⟨v0, fs, rfl, q0, gf⟩ := z
  cases gT_r (τ := τ) (t := 9) (v := v0) rfl q0
  have z := all2_cons gf
  clear gf
  obtain ⟨v0, fs, rfl, q0, gf⟩ := z
  cases gT_r (τ := τ) (t := 10) (v := v0) rfl q0
  have z := all2_cons gf
  clear gf
  obtain ⟨v0, fs, rfl, q0, gf⟩ := z
  cases gT_r (τ := τ) (t := 11) (v := v0) rfl q0
  have z := all2_cons gf
  clear gf
  obtain ⟨v0, fs, rfl, q0, gf⟩ := z
  cases gT_r (τ := τ) (t := 12) (v := v0) rfl q0
  have z := all2_cons gf
  clear gf
  obtain ⟨v0, fs, rfl, q0, gf⟩ := z
  cases gT_r (τ := τ) (t := 13) (v := v0) rfl q0
  have z := all2_cons gf
  clear gf
  obtain ⟨v0, fs, rfl, q0, gf⟩ := z
  cases gT_r (τ := τ) (t := 14) (v := v0) rfl q0
  have z := all2_cons gf
  clear gf
  obtain ⟨v0, fs, rfl, q0, gf⟩ := z
  cases gT_r (τ := τ) (t := 15) (v := v0) rfl q0
  have z := all2_cons gf
  clear gf
  obtain ⟨v0, fs, rfl, q0, gf⟩ := z
  cases gT_r (τ := τ) (t := 16) (v := v0) rfl q0
  have z := all2_cons gf
  clear gf
  obtain ⟨v0, fs, rfl, q0, gf⟩ := z
  cases gT_r (τ := τ) (t := 17) (v := v0) rfl q0
  have z := all2_cons gf
  clear gf
  obtain ⟨v0, fs, rfl, q0, gf⟩ := z
  cases gT_r (τ := τ) (t := 18) (v := v0) rfl q0
  have z := all2_cons gf
  clear gf
  obtain ⟨v0, fs, rfl, q0, gf⟩ := z
  cases gT_r (τ := τ) (t := 19) (v := v0) rfl q0
  have z := all2_cons gf
  clear gf
  obtain ⟨v0, fs, rfl, q0, gf⟩ := z
  cases gT_r (τ := τ) (t := 20) (v := v0) rfl q0
  have z := all2_cons gf
  clear gf
  obtain ⟨v0, fs, rfl, q0, gf⟩ := z
  cases gT_r (τ := τ) (t := 21) (v := v0) rfl q0
  have z := all2_cons gf
  clear gf
  obtain ⟨v0, fs, rfl, q0, gf⟩ := z
  cases gT_r (τ := τ) (t := 22) (v := v0) rfl q0
  have z := all2_cons gf
  clear gf
  obtain ⟨v0, fs, rfl, q0, gf⟩ := z
  cases gT_r (τ := τ) (t := 23) (v := v0) rfl q0
  have z := all2_cons gf
  clear gf
  obtain ⟨v0, fs, rfl, q0, gf⟩ := z
  cases gT_r (τ := τ) (t := 24) (v := v0) rfl q0
  have z := all2_cons gf
  clear gf
  obtain ⟨v0, fs, rfl, q0, gf⟩ := z
  obtain ⟨M_newMany, rfl, b_M_newMany⟩ := q0
  have z := all2_cons gf
  clear gf
  obtain ⟨v0, fs, rfl, q0, gf⟩ := z
  obtain ⟨M_rounds, rfl, b_M_rounds⟩ := q0
  have z := all2_cons gf
  clear gf
  obtain ⟨v0, fs, rfl, q0, gf⟩ := z
  obtain ⟨M_stampFrom, rfl, b_M_stampFrom⟩ := q0
  have z := all2_cons gf
  clear gf
  obtain ⟨v0, fs, rfl, q0, gf⟩ := z
  obtain ⟨M_stampTimes, rfl, b_M_stampTimes⟩ := q0
  have z := all2_cons gf
  clear gf
  obtain ⟨v0, fs, rfl, q0, gf⟩ := z
  obtain ⟨M_lines, rfl, b_M_lines⟩ := q0
  have z := all2_cons gf
  clear gf
  obtain ⟨v0, fs, rfl, q0, gf⟩ := z
  obtain ⟨M_spot0, rfl, b_M_spot0⟩ := q0
  have z := all2_cons gf
  clear gf
  obtain ⟨v0, fs, rfl, q0, gf⟩ := z
  obtain ⟨M_pullAcross, rfl, b_M_pullAcross⟩ := q0
  have z := all2_cons gf
  clear gf
  obtain ⟨v0, fs, rfl, q0, gf⟩ := z
  obtain ⟨M_pullAlong, rfl, b_M_pullAlong⟩ := q0
  have z := all2_cons gf
  clear gf
  obtain ⟨v0, fs, rfl, q0, gf⟩ := z
  obtain ⟨M_stepsNow, rfl, b_M_stepsNow⟩ := q0
  have z := all2_cons gf
  clear gf
  obtain ⟨v0, fs, rfl, q0, gf⟩ := z
  obtain ⟨M_fallenNow, rfl, b_M_fallenNow⟩ := q0
  have z := all2_cons gf
  clear gf
  obtain ⟨v0, fs, rfl, q0, gf⟩ := z
  cases gT_r (τ := τ) (t := 25) (v := v0) rfl q0
  have z := all2_cons gf
  clear gf
  obtain ⟨v0, fs, rfl, q0, gf⟩ := z
  cases gT_r (τ := τ) (t := 26) (v := v0) rfl q0
  have z := all2_cons gf
  clear gf
  obtain ⟨v0, fs, rfl, q0, gf⟩ := z
  cases gT_r (τ := τ) (t := 27) (v := v0) rfl q0
  have z := all2_cons gf
  clear gf
  obtain ⟨v0, fs, rfl, q0, gf⟩ := z
  cases gT_r (τ := τ) (t := 28) (v := v0) rfl q0
  have z := all2_cons gf
  clear gf
  obtain ⟨v0, fs, rfl, q0, gf⟩ := z
  cases gT_r (τ := τ) (t := 29) (v := v0) rfl q0
  have z := all2_cons gf
  clear gf
  obtain ⟨v0, fs, rfl, q0, gf⟩ := z
  obtain ⟨M_isKept, rfl, e_M_isKept, b_M_isKept⟩ := gT_x (τ := τ) (t := 201) (v := v0) rfl q0
  cases fs with
  | cons _ _ => exact gf.elim
  | nil =>
    have z := all2_cons hh
    clear hh
    obtain ⟨e1, h, rfl, g1, hh⟩ := z
    rcases e1 with ⟨t1, n1, M_tape⟩ | ⟨ci, fs⟩
    rotate_left
    · exact g1.elim
    obtain ⟨et, en, b_M_tape⟩ := g1
    cases (et : t1 = 1)
    cases en
    cases h with
    | cons _ _ => exact hh.elim
    | nil =>
      obtain ⟨s, hs, rfl⟩ := rng_n (x := M_taped) (k := 260) (by omega) (by omega)
      have es := sz_n (c := s) (by omega)
      obtain rfl : s = c := by omega
      obtain ⟨rF, eF⟩ := rg_x rfl b_M_tape
      refine (c_X12_feed hc).mono (fun r h' hp => ?_)
      obtain ⟨rfl, rfl⟩ := hp
      exact ⟨upL τ 251 (encA (fdR M_tape s a b d e f) 260), nI (s + 20), hΦ, fun t ht => upL_ne (ch_ne ht rfl), rfl, ⟨rfl, M_tape, eF, fun i hi => by rw [upL_at]; exact encA_ok hi⟩, ⟨⟨rfl, rfl, rfl, rfl, rfl, rfl, rfl, rfl, rfl, gT_mk rfl e_M_stampMany b_M_stampMany, rfl, ⟨_, rfl, sz_n (by omega)⟩, ⟨_, rfl, b_M_place0⟩, ⟨_, rfl, b_M_length0⟩, ⟨_, rfl, b_M_fault⟩, ⟨_, rfl, b_M_number0⟩, ⟨_, rfl, b_M_open⟩, ⟨_, rfl, b_M_codeMany⟩, ⟨_, rfl, b_M_waiting⟩, ⟨_, rfl, b_M_saidMany⟩, gT_mk rfl e_M_clauses b_M_clauses, rfl, rfl, rfl, rfl, rfl, rfl, rfl, rfl, rfl, rfl, rfl, rfl, rfl, rfl, rfl, rfl, rfl, ⟨_, rfl, b_M_newMany⟩, ⟨_, rfl, b_M_rounds⟩, ⟨_, rfl, b_M_stampFrom⟩, ⟨_, rfl, b_M_stampTimes⟩, ⟨_, rfl, b_M_lines⟩, ⟨_, rfl, b_M_spot0⟩, ⟨_, rfl, b_M_pullAcross⟩, ⟨_, rfl, b_M_pullAlong⟩, ⟨_, rfl, b_M_stepsNow⟩, ⟨_, rfl, b_M_fallenNow⟩, rfl, rfl, rfl, rfl, rfl, gT_mk rfl e_M_isKept b_M_isKept, trivial⟩, ⟨rfl, rfl, of_x rfl (fdR_rg rF) (fun i hi => (encA_ok hi).symm)⟩, trivial⟩⟩

set_option maxRecDepth 100000 in
theorem n_feedR {l : Launch} {a b d e f : Int32} : conOkX (MetP l 1 yX12_feed cX12_feed 6 (some .int) 0 0) [a, b, d, e, f] HN_feedR HN_feedR (fun _ => false) (fun _ => True) (fun _ _ y => y = -1) := by
  intro τ hΦ hP h hh
  have z := all2_cons hh
  clear hh
  obtain ⟨e0, h, rfl, g0, hh⟩ := z
  rcases e0 with ⟨t0, n0, f0⟩ | ⟨ci, fs⟩
  · exact g0.elim
  obtain ⟨rfl, gf⟩ := g0
  have z := all2_cons gf
  clear gf
  obtain ⟨v0, fs, rfl, q0, gf⟩ := z
  cases gT_r (τ := τ) (t := 0) (v := v0) rfl q0
  have z := all2_cons gf
  clear gf
  obtain ⟨v0, fs, rfl, q0, gf⟩ := z
  cases gT_r (τ := τ) (t := 1) (v := v0) rfl q0
  have z := all2_cons gf
  clear gf
  obtain ⟨v0, fs, rfl, q0, gf⟩ := z
  cases gT_r (τ := τ) (t := 2) (v := v0) rfl q0
  have z := all2_cons gf
  clear gf
  obtain ⟨v0, fs, rfl, q0, gf⟩ := z
  cases gT_r (τ := τ) (t := 3) (v := v0) rfl q0
  have z := all2_cons gf
  clear gf
  obtain ⟨v0, fs, rfl, q0, gf⟩ := z
  cases gT_r (τ := τ) (t := 4) (v := v0) rfl q0
  have z := all2_cons gf
  clear gf
  obtain ⟨v0, fs, rfl, q0, gf⟩ := z
  cases gT_r (τ := τ) (t := 5) (v := v0) rfl q0
  have z := all2_cons gf
  clear gf
  obtain ⟨v0, fs, rfl, q0, gf⟩ := z
  cases gT_r (τ := τ) (t := 6) (v := v0) rfl q0
  have z := all2_cons gf
  clear gf
  obtain ⟨v0, fs, rfl, q0, gf⟩ := z
  cases gT_r (τ := τ) (t := 7) (v := v0) rfl q0
  have z := all2_cons gf
  clear gf
  obtain ⟨v0, fs, rfl, q0, gf⟩ := z
  obtain ⟨M_stampMany, rfl, e_M_stampMany, b_M_stampMany⟩ := gT_x (τ := τ) (t := 205) (v := v0) rfl q0
  have z := all2_cons gf
  clear gf
  obtain ⟨v0, fs, rfl, q0, gf⟩ := z
  cases (q0 : v0 = .inr (some (.inl 1)))
  have z := all2_cons gf
  clear gf
  obtain ⟨v0, fs, rfl, q0, gf⟩ := z
  obtain ⟨M_taped, rfl, b_M_taped⟩ := q0
  have z := all2_cons gf
  clear gf
  obtain ⟨v0, fs, rfl, q0, gf⟩ := z
  obtain ⟨M_place0, rfl, b_M_place0⟩ := q0
  have z := all2_cons gf
  clear gf
  obtain ⟨v0, fs, rfl, q0, gf⟩ := z
  obtain ⟨M_length0, rfl, b_M_length0⟩ := q0
  have z := all2_cons gf
  clear gf
  obtain ⟨v0, fs, rfl, q0, gf⟩ := z
  obtain ⟨M_fault, rfl, b_M_fault⟩ := q0
  have z := all2_cons gf
  clear gf
  obtain ⟨v0, fs, rfl, q0, gf⟩ := z
  obtain ⟨M_number0, rfl, b_M_number0⟩ := q0
  have z := all2_cons gf
  clear gf
  obtain ⟨v0, fs, rfl, q0, gf⟩ := z
  obtain ⟨M_open, rfl, b_M_open⟩ := q0
  have z := all2_cons gf
  clear gf
  obtain ⟨v0, fs, rfl, q0, gf⟩ := z
  obtain ⟨M_codeMany, rfl, b_M_codeMany⟩ := q0
  have z := all2_cons gf
  clear gf
  obtain ⟨v0, fs, rfl, q0, gf⟩ := z
  obtain ⟨M_waiting, rfl, b_M_waiting⟩ := q0
  have z := all2_cons gf
  clear gf
  obtain ⟨v0, fs, rfl, q0, gf⟩ := z
  obtain ⟨M_saidMany, rfl, b_M_saidMany⟩ := q0
  have z := all2_cons gf
  clear gf
  obtain ⟨v0, fs, rfl, q0, gf⟩ := z
  obtain ⟨M_clauses, rfl, e_M_clauses, b_M_clauses⟩ := gT_x (τ := τ) (t := 200) (v := v0) rfl q0
  have z := all2_cons gf
  clear gf
  obtain ⟨v0, fs, rfl, q0, gf⟩ := z
  cases gT_r (τ := τ) (t := 8) (v := v0) rfl q0
  have z := all2_cons gf
  clear gf
  obtain ⟨v0, fs, rfl, q0, gf⟩ := z
  cases gT_r (τ := τ) (t := 9) (v := v0) rfl q0
  have z := all2_cons gf
  clear gf
  obtain ⟨v0, fs, rfl, q0, gf⟩ := z
  cases gT_r (τ := τ) (t := 10) (v := v0) rfl q0
  have z := all2_cons gf
  clear gf
  obtain ⟨v0, fs, rfl, q0, gf⟩ := z
  cases gT_r (τ := τ) (t := 11) (v := v0) rfl q0
  have z := all2_cons gf
  clear gf
  obtain ⟨v0, fs, rfl, q0, gf⟩ := z
  cases gT_r (τ := τ) (t := 12) (v := v0) rfl q0
  have z := all2_cons gf
  clear gf
  obtain ⟨v0, fs, rfl, q0, gf⟩ := z
  cases gT_r (τ := τ) (t := 13) (v := v0) rfl q0
  have z := all2_cons gf
  clear gf
  obtain ⟨v0, fs, rfl, q0, gf⟩ := z
  cases gT_r (τ := τ) (t := 14) (v := v0) rfl q0
  have z := all2_cons gf
  clear gf
  obtain ⟨v0, fs, rfl, q0, gf⟩ := z
  cases gT_r (τ := τ) (t := 15) (v := v0) rfl q0
  have z := all2_cons gf
  clear gf
  obtain ⟨v0, fs, rfl, q0, gf⟩ := z
  cases gT_r (τ := τ) (t := 16) (v := v0) rfl q0
  have z := all2_cons gf
  clear gf
  obtain ⟨v0, fs, rfl, q0, gf⟩ := z
  cases gT_r (τ := τ) (t := 17) (v := v0) rfl q0
  have z := all2_cons gf
  clear gf
  obtain ⟨v0, fs, rfl, q0, gf⟩ := z
  cases gT_r (τ := τ) (t := 18) (v := v0) rfl q0
  have z := all2_cons gf
  clear gf
  obtain ⟨v0, fs, rfl, q0, gf⟩ := z
  cases gT_r (τ := τ) (t := 19) (v := v0) rfl q0
  have z := all2_cons gf
  clear gf
  obtain ⟨v0, fs, rfl, q0, gf⟩ := z
  cases gT_r (τ := τ) (t := 20) (v := v0) rfl q0
  have z := all2_cons gf
  clear gf
  obtain ⟨v0, fs, rfl, q0, gf⟩ := z
  cases gT_r (τ := τ) (t := 21) (v := v0) rfl q0
  have z := all2_cons gf
  clear gf
  obtain ⟨v0, fs, rfl, q0, gf⟩ := z
  cases gT_r (τ := τ) (t := 22) (v := v0) rfl q0
  have z := all2_cons gf
  clear gf
  obtain ⟨v0, fs, rfl, q0, gf⟩ := z
  cases gT_r (τ := τ) (t := 23) (v := v0) rfl q0
  have z := all2_cons gf
  clear gf
  obtain ⟨v0, fs, rfl, q0, gf⟩ := z
  cases gT_r (τ := τ) (t := 24) (v := v0) rfl q0
  have z := all2_cons gf
  clear gf
  obtain ⟨v0, fs, rfl, q0, gf⟩ := z
  obtain ⟨M_newMany, rfl, b_M_newMany⟩ := q0
  have z := all2_cons gf
  clear gf
  obtain ⟨v0, fs, rfl, q0, gf⟩ := z
  obtain ⟨M_rounds, rfl, b_M_rounds⟩ := q0
  have z := all2_cons gf
  clear gf
  obtain ⟨v0, fs, rfl, q0, gf⟩ := z
  obtain ⟨M_stampFrom, rfl, b_M_stampFrom⟩ := q0
  have z := all2_cons gf
  clear gf
  obtain ⟨v0, fs, rfl, q0, gf⟩ := z
  obtain ⟨M_stampTimes, rfl, b_M_stampTimes⟩ := q0
  have z := all2_cons gf
  clear gf
  obtain ⟨v0, fs, rfl, q0, gf⟩ := z
  obtain ⟨M_lines, rfl, b_M_lines⟩ := q0
  have z := all2_cons gf
  clear gf
  obtain ⟨v0, fs, rfl, q0, gf⟩ := z
  obtain ⟨M_spot0, rfl, b_M_spot0⟩ := q0
  have z := all2_cons gf
  clear gf
  obtain ⟨v0, fs, rfl, q0, gf⟩ := z
  obtain ⟨M_pullAcross, rfl, b_M_pullAcross⟩ := q0
  have z := all2_cons gf
  clear gf
  obtain ⟨v0, fs, rfl, q0, gf⟩ := z
  obtain ⟨M_pullAlong, rfl, b_M_pullAlong⟩ := q0
  have z := all2_cons gf
  clear gf
  obtain ⟨v0, fs, rfl, q0, gf⟩ := z
  obtain ⟨M_stepsNow, rfl, b_M_stepsNow⟩ := q0
  have z := all2_cons gf
  clear gf
  obtain ⟨v0, fs, rfl, q0, gf⟩ := z
  obtain ⟨M_fallenNow, rfl, b_M_fallenNow⟩ := q0
  have z := all2_cons gf
  clear gf
  obtain ⟨v0, fs, rfl, q0, gf⟩ := z
  cases gT_r (τ := τ) (t := 25) (v := v0) rfl q0
  have z := all2_cons gf
  clear gf
  obtain ⟨v0, fs, rfl, q0, gf⟩ := z
  cases gT_r (τ := τ) (t := 26) (v := v0) rfl q0
  have z := all2_cons gf
  clear gf
  obtain ⟨v0, fs, rfl, q0, gf⟩ := z
  cases gT_r (τ := τ) (t := 27) (v := v0) rfl q0
  have z := all2_cons gf
  clear gf
  obtain ⟨v0, fs, rfl, q0, gf⟩ := z
  cases gT_r (τ := τ) (t := 28) (v := v0) rfl q0
  have z := all2_cons gf
  clear gf
  obtain ⟨v0, fs, rfl, q0, gf⟩ := z
  cases gT_r (τ := τ) (t := 29) (v := v0) rfl q0
  have z := all2_cons gf
  clear gf
  obtain ⟨v0, fs, rfl, q0, gf⟩ := z
  obtain ⟨M_isKept, rfl, e_M_isKept, b_M_isKept⟩ := gT_x (τ := τ) (t := 201) (v := v0) rfl q0
  cases fs with
  | cons _ _ => exact gf.elim
  | nil =>
    have z := all2_cons hh
    clear hh
    obtain ⟨e1, h, rfl, g1, hh⟩ := z
    rcases e1 with ⟨t1, n1, M_tape⟩ | ⟨ci, fs⟩
    rotate_left
    · exact g1.elim
    obtain ⟨et, en, b_M_tape⟩ := g1
    cases (et : t1 = 1)
    cases en
    cases h with
    | cons _ _ => exact hh.elim
    | nil =>
      obtain rfl : M_taped = nI 260 := i32eq.mpr (show M_taped.toInt = 260 by omega)
      refine n_X12_feed.mono (fun r h' hp => ?_)
      obtain ⟨rfl, rfl⟩ := hp
      exact ⟨τ, -1, hΦ, fun _ _ => rfl, rfl, rfl, ⟨⟨rfl, rfl, rfl, rfl, rfl, rfl, rfl, rfl, rfl, gT_mk rfl e_M_stampMany b_M_stampMany, rfl, ⟨_, rfl, b_M_taped⟩, ⟨_, rfl, b_M_place0⟩, ⟨_, rfl, b_M_length0⟩, ⟨_, rfl, b_M_fault⟩, ⟨_, rfl, b_M_number0⟩, ⟨_, rfl, b_M_open⟩, ⟨_, rfl, b_M_codeMany⟩, ⟨_, rfl, b_M_waiting⟩, ⟨_, rfl, b_M_saidMany⟩, gT_mk rfl e_M_clauses b_M_clauses, rfl, rfl, rfl, rfl, rfl, rfl, rfl, rfl, rfl, rfl, rfl, rfl, rfl, rfl, rfl, rfl, rfl, ⟨_, rfl, b_M_newMany⟩, ⟨_, rfl, b_M_rounds⟩, ⟨_, rfl, b_M_stampFrom⟩, ⟨_, rfl, b_M_stampTimes⟩, ⟨_, rfl, b_M_lines⟩, ⟨_, rfl, b_M_spot0⟩, ⟨_, rfl, b_M_pullAcross⟩, ⟨_, rfl, b_M_pullAlong⟩, ⟨_, rfl, b_M_stepsNow⟩, ⟨_, rfl, b_M_fallenNow⟩, rfl, rfl, rfl, rfl, rfl, gT_mk rfl e_M_isKept b_M_isKept, trivial⟩, ⟨rfl, rfl, b_M_tape⟩, trivial⟩⟩

theorem nr48 {c : Nat} (h : c ≤ 48) : 0 ≤ (nI c).toInt ∧ (nI c).toInt ≤ 48 := by rw [nI_toInt (by omega)]; omega
theorem nr240 {c : Nat} (h : c ≤ 240) : 0 ≤ (nI c).toInt ∧ (nI c).toInt ≤ 240 := by rw [nI_toInt (by omega)]; omega
theorem ch_s {t a b c : Nat} (h : (Nat.ble 100 t && (Nat.beq t a || (Nat.beq t b || Nat.beq t c))) = false) (ha : Nat.ble 100 a = true) (hb : Nat.ble 100 b = true) (hc : Nat.ble 100 c = true) : t ≠ a ∧ t ≠ b ∧ t ≠ c := by
  refine ⟨fun z => ?_, fun z => ?_, fun z => ?_⟩
  · subst z
    rw [ha, Nat.beq_refl] at h
    cases h
  · subst z
    rw [hb, Nat.beq_refl, Bool.true_or, Bool.or_true] at h
    cases h
  · subst z
    rw [hc, Nat.beq_refl, Bool.or_true, Bool.or_true] at h
    cases h
def HX_sheet20C : List AC := [.inr (10, [.inr (.inr (some (.inl 1))), .inr (.inr (some (.inl 6))), .inr (.inr (some (.inl 12))), .inr (.inr (some (.inr 0))), .inr (.inr (some (.inr 1))), .inr (.inr (some (.inr 2))), .inr (.inr (some (.inr 3))), .inr (.inr (some (.inr 4))), .inr (.inr (some (.inl 3))), .inr (.inr (some (.inr 5))), .inr (.inr (some (.inr 6))), .inr (.inr (some (.inr 7))), .inr (.inr (some (.inr 8))), .inr (.inr (some (.inr 9))), .inr (.inr (some (.inr 201)))]), .inr (9, [.inr (.inr (some (.inl 2))), .inl (20, 260)]), .inl (1000, 260, 0, 255), .inr (8, [.inr (.inr (some (.inl 2))), .inl (-2147483648, 2147483647), .inl (-2147483648, 2147483647), .inl (-2147483648, 2147483647), .inl (-2147483648, 2147483647), .inr (.inr (some (.inl 4))), .inr (.inr (some (.inl 5))), .inl (0, 48)]), .inl (0, 48, -2147483648, 2147483647), .inl (0, 48, -2147483648, 2147483647), .inr (6, [.inr (.inr (some (.inl 7))), .inr (.inr (some (.inl 8))), .inr (.inr (some (.inl 9))), .inr (.inr (some (.inl 10))), .inr (.inr (some (.inl 11))), .inr (.inr (some (.inr 203))), .inl (-2147483648, 2147483647), .inr (.inr (some (.inr 204)))]), .inl (1008, 8, -2147483648, 2147483647), .inl (1012, 8, -2147483648, 2147483647), .inl (1054, 384, 0, 1), .inl (1020, 48, -2147483648, 2147483647), .inl (1024, 48, -2147483648, 2147483647), .inr (4, [.inr (.inr (some (.inl 13))), .inr (.inr (some (.inl 14))), .inr (.inr (some (.inl 15))), .inr (.inr (some (.inl 16))), .inr (.inr (some (.inr 206))), .inl (-2147483648, 2147483647), .inl (-2147483648, 2147483647), .inl (-2147483648, 2147483647)]), .inl (0, 8, -2147483648, 2147483647), .inl (0, 8, -2147483648, 2147483647), .inl (0, 48, -2147483648, 2147483647), .inl (0, 48, -2147483648, 2147483647)]
def HY_sheet20C : List AC := hc_ef9b4feb14
set_option maxRecDepth 100000 in
theorem x_sheet20C {l : Launch} {n : Nat} (h1 : 1 ≤ n ∧ n ≤ 20) : conOkX (MetP l 102 yX11_sheet cX11_sheet 3 (some .int) 0 0) [nI n] HX_sheet20C HY_sheet20C (fun t => Nat.beq t 204 || (Nat.beq t 255 || Nat.beq t 256)) (fun _ => True) (fun τ τ' y => shY (ob (decA (τ 250))) n y ∧ shQ (ob (decA (τ 250))) n (decA (τ 204) 0) (decA (τ' 204) 0) (decA (τ 255)) (decA (τ' 255)) (decA (τ 256)) (decA (τ' 256))) := by
  intro τ hΦ hP h hh
  have z := all2_cons hh
  clear hh
  obtain ⟨e0, h, rfl, g0, hh⟩ := z
  rcases e0 with ⟨t0, n0, f0⟩ | ⟨ci, fs⟩
  · exact g0.elim
  obtain ⟨rfl, gf⟩ := g0
  have z := all2_cons gf
  clear gf
  obtain ⟨v0, fs, rfl, q0, gf⟩ := z
  cases (q0 : v0 = .inr (some (.inl 1)))
  have z := all2_cons gf
  clear gf
  obtain ⟨v0, fs, rfl, q0, gf⟩ := z
  cases (q0 : v0 = .inr (some (.inl 6)))
  have z := all2_cons gf
  clear gf
  obtain ⟨v0, fs, rfl, q0, gf⟩ := z
  cases (q0 : v0 = .inr (some (.inl 12)))
  have z := all2_cons gf
  clear gf
  obtain ⟨v0, fs, rfl, q0, gf⟩ := z
  cases gT_r (τ := τ) (t := 0) (v := v0) rfl q0
  have z := all2_cons gf
  clear gf
  obtain ⟨v0, fs, rfl, q0, gf⟩ := z
  cases gT_r (τ := τ) (t := 1) (v := v0) rfl q0
  have z := all2_cons gf
  clear gf
  obtain ⟨v0, fs, rfl, q0, gf⟩ := z
  cases gT_r (τ := τ) (t := 2) (v := v0) rfl q0
  have z := all2_cons gf
  clear gf
  obtain ⟨v0, fs, rfl, q0, gf⟩ := z
  cases gT_r (τ := τ) (t := 3) (v := v0) rfl q0
  have z := all2_cons gf
  clear gf
  obtain ⟨v0, fs, rfl, q0, gf⟩ := z
  cases gT_r (τ := τ) (t := 4) (v := v0) rfl q0
  have z := all2_cons gf
  clear gf
  obtain ⟨v0, fs, rfl, q0, gf⟩ := z
  cases (q0 : v0 = .inr (some (.inl 3)))
  have z := all2_cons gf
  clear gf
  obtain ⟨v0, fs, rfl, q0, gf⟩ := z
  cases gT_r (τ := τ) (t := 5) (v := v0) rfl q0
  have z := all2_cons gf
  clear gf
  obtain ⟨v0, fs, rfl, q0, gf⟩ := z
  cases gT_r (τ := τ) (t := 6) (v := v0) rfl q0
  have z := all2_cons gf
  clear gf
  obtain ⟨v0, fs, rfl, q0, gf⟩ := z
  cases gT_r (τ := τ) (t := 7) (v := v0) rfl q0
  have z := all2_cons gf
  clear gf
  obtain ⟨v0, fs, rfl, q0, gf⟩ := z
  cases gT_r (τ := τ) (t := 8) (v := v0) rfl q0
  have z := all2_cons gf
  clear gf
  obtain ⟨v0, fs, rfl, q0, gf⟩ := z
  cases gT_r (τ := τ) (t := 9) (v := v0) rfl q0
  have z := all2_cons gf
  clear gf
  obtain ⟨v0, fs, rfl, q0, gf⟩ := z
  obtain ⟨HS_wasKept, rfl, e_HS_wasKept, b_HS_wasKept⟩ := gT_x (τ := τ) (t := 201) (v := v0) rfl q0
  cases fs with
  | cons _ _ => exact gf.elim
  | nil =>
    have z := all2_cons hh
    clear hh
    obtain ⟨e0, h, rfl, g0, hh⟩ := z
    rcases e0 with ⟨t0, n0, f0⟩ | ⟨ci, fs⟩
    · exact g0.elim
    obtain ⟨rfl, gf⟩ := g0
    have z := all2_cons gf
    clear gf
    obtain ⟨v0, fs, rfl, q0, gf⟩ := z
    cases (q0 : v0 = .inr (some (.inl 2)))
    have z := all2_cons gf
    clear gf
    obtain ⟨v0, fs, rfl, q0, gf⟩ := z
    obtain ⟨Tape_size, rfl, b_Tape_size⟩ := q0
    cases fs with
    | cons _ _ => exact gf.elim
    | nil =>
      have z := all2_cons hh
      clear hh
      obtain ⟨e1, h, rfl, g1, hh⟩ := z
      rcases e1 with ⟨t1, n1, Tape_bytes⟩ | ⟨ci, fs⟩
      rotate_left
      · exact g1.elim
      obtain ⟨et, en, b_Tape_bytes⟩ := g1
      cases (et : t1 = 0)
      cases en
      have z := all2_cons hh
      clear hh
      obtain ⟨e0, h, rfl, g0, hh⟩ := z
      rcases e0 with ⟨t0, n0, f0⟩ | ⟨ci, fs⟩
      · exact g0.elim
      obtain ⟨rfl, gf⟩ := g0
      have z := all2_cons gf
      clear gf
      obtain ⟨v0, fs, rfl, q0, gf⟩ := z
      cases (q0 : v0 = .inr (some (.inl 2)))
      have z := all2_cons gf
      clear gf
      obtain ⟨v0, fs, rfl, q0, gf⟩ := z
      obtain ⟨SR_end, rfl, b_SR_end⟩ := q0
      have z := all2_cons gf
      clear gf
      obtain ⟨v0, fs, rfl, q0, gf⟩ := z
      obtain ⟨SR_at, rfl, b_SR_at⟩ := q0
      have z := all2_cons gf
      clear gf
      obtain ⟨v0, fs, rfl, q0, gf⟩ := z
      obtain ⟨SR_ahead, rfl, b_SR_ahead⟩ := q0
      have z := all2_cons gf
      clear gf
      obtain ⟨v0, fs, rfl, q0, gf⟩ := z
      obtain ⟨SR_fault, rfl, b_SR_fault⟩ := q0
      have z := all2_cons gf
      clear gf
      obtain ⟨v0, fs, rfl, q0, gf⟩ := z
      cases (q0 : v0 = .inr (some (.inl 4)))
      have z := all2_cons gf
      clear gf
      obtain ⟨v0, fs, rfl, q0, gf⟩ := z
      cases (q0 : v0 = .inr (some (.inl 5)))
      have z := all2_cons gf
      clear gf
      obtain ⟨v0, fs, rfl, q0, gf⟩ := z
      obtain ⟨SR_size, rfl, b_SR_size⟩ := q0
      cases fs with
      | cons _ _ => exact gf.elim
      | nil =>
        have z := all2_cons hh
        clear hh
        obtain ⟨e1, h, rfl, g1, hh⟩ := z
        rcases e1 with ⟨t1, n1, SR_mint⟩ | ⟨ci, fs⟩
        rotate_left
        · exact g1.elim
        obtain ⟨et, en, b_SR_mint⟩ := g1
        cases (et : t1 = 0)
        cases en
        have z := all2_cons hh
        clear hh
        obtain ⟨e1, h, rfl, g1, hh⟩ := z
        rcases e1 with ⟨t1, n1, SR_grains⟩ | ⟨ci, fs⟩
        rotate_left
        · exact g1.elim
        obtain ⟨et, en, b_SR_grains⟩ := g1
        cases (et : t1 = 0)
        cases en
        have z := all2_cons hh
        clear hh
        obtain ⟨e0, h, rfl, g0, hh⟩ := z
        rcases e0 with ⟨t0, n0, f0⟩ | ⟨ci, fs⟩
        · exact g0.elim
        obtain ⟨rfl, gf⟩ := g0
        have z := all2_cons gf
        clear gf
        obtain ⟨v0, fs, rfl, q0, gf⟩ := z
        cases (q0 : v0 = .inr (some (.inl 7)))
        have z := all2_cons gf
        clear gf
        obtain ⟨v0, fs, rfl, q0, gf⟩ := z
        cases (q0 : v0 = .inr (some (.inl 8)))
        have z := all2_cons gf
        clear gf
        obtain ⟨v0, fs, rfl, q0, gf⟩ := z
        cases (q0 : v0 = .inr (some (.inl 9)))
        have z := all2_cons gf
        clear gf
        obtain ⟨v0, fs, rfl, q0, gf⟩ := z
        cases (q0 : v0 = .inr (some (.inl 10)))
        have z := all2_cons gf
        clear gf
        obtain ⟨v0, fs, rfl, q0, gf⟩ := z
        cases (q0 : v0 = .inr (some (.inl 11)))
        have z := all2_cons gf
        clear gf
        obtain ⟨v0, fs, rfl, q0, gf⟩ := z
        obtain ⟨Rep_toldMints, rfl, e_Rep_toldMints, b_Rep_toldMints⟩ := gT_x (τ := τ) (t := 203) (v := v0) rfl q0
        have z := all2_cons gf
        clear gf
        obtain ⟨v0, fs, rfl, q0, gf⟩ := z
        obtain ⟨Rep_walls, rfl, b_Rep_walls⟩ := q0
        have z := all2_cons gf
        clear gf
        obtain ⟨v0, fs, rfl, q0, gf⟩ := z
        obtain ⟨Rep_stamps, rfl, e_Rep_stamps, b_Rep_stamps⟩ := gT_x (τ := τ) (t := 204) (v := v0) rfl q0
        cases fs with
        | cons _ _ => exact gf.elim
        | nil =>
          have z := all2_cons hh
          clear hh
          obtain ⟨e1, h, rfl, g1, hh⟩ := z
          rcases e1 with ⟨t1, n1, Rep_mintX⟩ | ⟨ci, fs⟩
          rotate_left
          · exact g1.elim
          obtain ⟨et, en, b_Rep_mintX⟩ := g1
          cases (et : t1 = 0)
          cases en
          have z := all2_cons hh
          clear hh
          obtain ⟨e1, h, rfl, g1, hh⟩ := z
          rcases e1 with ⟨t1, n1, Rep_mintY⟩ | ⟨ci, fs⟩
          rotate_left
          · exact g1.elim
          obtain ⟨et, en, b_Rep_mintY⟩ := g1
          cases (et : t1 = 0)
          cases en
          have z := all2_cons hh
          clear hh
          obtain ⟨e1, h, rfl, g1, hh⟩ := z
          rcases e1 with ⟨t1, n1, Rep_wall⟩ | ⟨ci, fs⟩
          rotate_left
          · exact g1.elim
          obtain ⟨et, en, b_Rep_wall⟩ := g1
          cases (et : t1 = 2)
          cases en
          have z := all2_cons hh
          clear hh
          obtain ⟨e1, h, rfl, g1, hh⟩ := z
          rcases e1 with ⟨t1, n1, Rep_mintOf⟩ | ⟨ci, fs⟩
          rotate_left
          · exact g1.elim
          obtain ⟨et, en, b_Rep_mintOf⟩ := g1
          cases (et : t1 = 0)
          cases en
          have z := all2_cons hh
          clear hh
          obtain ⟨e1, h, rfl, g1, hh⟩ := z
          rcases e1 with ⟨t1, n1, Rep_grainsOf⟩ | ⟨ci, fs⟩
          rotate_left
          · exact g1.elim
          obtain ⟨et, en, b_Rep_grainsOf⟩ := g1
          cases (et : t1 = 0)
          cases en
          have z := all2_cons hh
          clear hh
          obtain ⟨e0, h, rfl, g0, hh⟩ := z
          rcases e0 with ⟨t0, n0, f0⟩ | ⟨ci, fs⟩
          · exact g0.elim
          obtain ⟨rfl, gf⟩ := g0
          have z := all2_cons gf
          clear gf
          obtain ⟨v0, fs, rfl, q0, gf⟩ := z
          cases (q0 : v0 = .inr (some (.inl 13)))
          have z := all2_cons gf
          clear gf
          obtain ⟨v0, fs, rfl, q0, gf⟩ := z
          cases (q0 : v0 = .inr (some (.inl 14)))
          have z := all2_cons gf
          clear gf
          obtain ⟨v0, fs, rfl, q0, gf⟩ := z
          cases (q0 : v0 = .inr (some (.inl 15)))
          have z := all2_cons gf
          clear gf
          obtain ⟨v0, fs, rfl, q0, gf⟩ := z
          cases (q0 : v0 = .inr (some (.inl 16)))
          have z := all2_cons gf
          clear gf
          obtain ⟨v0, fs, rfl, q0, gf⟩ := z
          obtain ⟨Now_told, rfl, e_Now_told, b_Now_told⟩ := gT_x (τ := τ) (t := 206) (v := v0) rfl q0
          have z := all2_cons gf
          clear gf
          obtain ⟨v0, fs, rfl, q0, gf⟩ := z
          obtain ⟨Now_walled, rfl, b_Now_walled⟩ := q0
          have z := all2_cons gf
          clear gf
          obtain ⟨v0, fs, rfl, q0, gf⟩ := z
          obtain ⟨Now_day, rfl, b_Now_day⟩ := q0
          have z := all2_cons gf
          clear gf
          obtain ⟨v0, fs, rfl, q0, gf⟩ := z
          obtain ⟨Now_drawState, rfl, b_Now_drawState⟩ := q0
          cases fs with
          | cons _ _ => exact gf.elim
          | nil =>
            have z := all2_cons hh
            clear hh
            obtain ⟨e1, h, rfl, g1, hh⟩ := z
            rcases e1 with ⟨t1, n1, Now_place⟩ | ⟨ci, fs⟩
            rotate_left
            · exact g1.elim
            obtain ⟨et, en, b_Now_place⟩ := g1
            cases (et : t1 = 0)
            cases en
            have z := all2_cons hh
            clear hh
            obtain ⟨e1, h, rfl, g1, hh⟩ := z
            rcases e1 with ⟨t1, n1, Now_paste⟩ | ⟨ci, fs⟩
            rotate_left
            · exact g1.elim
            obtain ⟨et, en, b_Now_paste⟩ := g1
            cases (et : t1 = 0)
            cases en
            have z := all2_cons hh
            clear hh
            obtain ⟨e1, h, rfl, g1, hh⟩ := z
            rcases e1 with ⟨t1, n1, Now_letter⟩ | ⟨ci, fs⟩
            rotate_left
            · exact g1.elim
            obtain ⟨et, en, b_Now_letter⟩ := g1
            cases (et : t1 = 0)
            cases en
            have z := all2_cons hh
            clear hh
            obtain ⟨e1, h, rfl, g1, hh⟩ := z
            rcases e1 with ⟨t1, n1, Now_used⟩ | ⟨ci, fs⟩
            rotate_left
            · exact g1.elim
            obtain ⟨et, en, b_Now_used⟩ := g1
            cases (et : t1 = 0)
            cases en
            cases h with
            | cons _ _ => exact hh.elim
            | nil =>
              obtain ⟨s, hs, rfl⟩ := rng_n (x := Tape_size) (k := 260) (by omega) b_Tape_size.2
              have es := sz_n (c := s) (by omega)
              obtain ⟨rF, eF⟩ := rg_x rfl b_Tape_bytes
              obtain ⟨rMO, eMO⟩ := rg_x rfl b_Rep_mintOf
              obtain ⟨rGR, eGR⟩ := rg_x rfl b_Rep_grainsOf
              refine (c_X11_sheet (o := ob (decA (τ 250))) (s := s) h1.1 (by omega) hs (by omega) (fun i hi => ob_ok (by omega) (eF i (by omega)) (rF i (by omega)))).mono (fun r h' hp => ?_)
              obtain ⟨y, at_, ah, fa, sm, c, fm, fg, mo, gr, le, us, rfl, hc, kQ, hst, rfl⟩ := hp
              have hsm : 0 ≤ sm.toInt ∧ sm.toInt ≤ 48 := by rcases hst with z | z <;> rw [z.1] <;> first | exact b_Rep_stamps | exact nr48 hc
              have hq : shQ (ob (decA (τ 250))) n (decA (τ 204) 0) (decA ((upL (upL (upL τ 255 (encA mo 48)) 256 (encA gr 48)) 204 [some (natOf sm)]) 204) 0) (decA (τ 255)) (decA ((upL (upL (upL τ 255 (encA mo 48)) 256 (encA gr 48)) 204 [some (natOf sm)]) 255)) (decA (τ 256)) (decA ((upL (upL (upL τ 255 (encA mo 48)) 256 (encA gr 48)) 204 [some (natOf sm)]) 256)) := by
                rcases hst with ⟨z1, z2, z3, z4⟩ | ⟨z1, g, z2, z3⟩
                · refine Or.inl ⟨((natOf_ok _).trans z1).trans e_Rep_stamps, fun i hi => ?_, fun i hi => ?_, z4⟩
                  · exact (encA_ok hi).trans (by rw [z2]; exact eMO i hi)
                  · exact (encA_ok hi).trans (by rw [z3]; exact eGR i hi)
                · exact Or.inr ⟨c, g, hc, (natOf_ok _).trans z1, z2, fun i hi => ⟨(encA_ok (Nat.lt_of_lt_of_le hi hc)).trans (z3 i hi).1, (encA_ok (Nat.lt_of_lt_of_le hi hc)).trans (z3 i hi).2⟩⟩
              exact ⟨upL (upL (upL τ 255 (encA mo 48)) 256 (encA gr 48)) 204 [some (natOf sm)], y, hΦ, fun t ht => (upL_ne (ch_s ht rfl rfl rfl).1).trans ((upL_ne (ch_s ht rfl rfl rfl).2.2).trans (upL_ne (ch_s ht rfl rfl rfl).2.1)), rfl, ⟨kQ, hq⟩, ⟨⟨rfl, rfl, rfl, rfl, rfl, rfl, rfl, rfl, rfl, rfl, rfl, rfl, rfl, rfl, rfl, gT_mk rfl e_HS_wasKept b_HS_wasKept, trivial⟩, ⟨rfl, rfl, ⟨0, rfl, by decide, by decide⟩, trivial⟩, ⟨rfl, rfl, b_Tape_bytes⟩, ⟨rfl, rfl, topA_ok _, topA_ok _, topA_ok _, topA_ok _, rfl, rfl, ⟨_, rfl, nr48 hc⟩, trivial⟩, ⟨rfl, rfl, of_rg rg_top⟩, ⟨rfl, rfl, of_rg rg_top⟩, ⟨rfl, rfl, rfl, rfl, rfl, rfl, gT_mk rfl e_Rep_toldMints b_Rep_toldMints, ⟨_, rfl, b_Rep_walls⟩, gT_mk (t := 204) rfl (natOf_ok _).symm hsm, trivial⟩, ⟨rfl, rfl, b_Rep_mintX⟩, ⟨rfl, rfl, b_Rep_mintY⟩, ⟨rfl, rfl, b_Rep_wall⟩, ⟨rfl, rfl, of_x rfl (fun i _ => ⟨i32lo _, i32hi _⟩) (fun i hi => (encA_ok hi).symm)⟩, ⟨rfl, rfl, of_x rfl (fun i _ => ⟨i32lo _, i32hi _⟩) (fun i hi => (encA_ok hi).symm)⟩, ⟨rfl, rfl, rfl, rfl, rfl, gT_mk rfl e_Now_told b_Now_told, ⟨_, rfl, b_Now_walled⟩, ⟨_, rfl, b_Now_day⟩, ⟨_, rfl, b_Now_drawState⟩, trivial⟩, ⟨rfl, rfl, b_Now_place⟩, ⟨rfl, rfl, b_Now_paste⟩, ⟨rfl, rfl, of_rg rg_top⟩, ⟨rfl, rfl, of_rg rg_top⟩, trivial⟩⟩

def HX_sheet20R : List AC := [.inr (11, [.inr (.inr (some (.inl 1))), .inr (.inr (some (.inr 0))), .inr (.inr (some (.inr 1))), .inr (.inr (some (.inr 2))), .inr (.inr (some (.inl 2))), .inr (.inr (some (.inl 3))), .inr (.inr (some (.inr 3))), .inr (.inr (some (.inr 4))), .inr (.inr (some (.inr 205))), .inr (.inr (some (.inl 4))), .inl (20, 260), .inl (0, 240), .inl (0, 240), .inl (-2147483648, 2147483647), .inl (-2147483648, 2147483647), .inl (-2147483648, 2147483647), .inl (0, 260), .inl (0, 260), .inl (0, 16), .inr (.inr (some (.inr 200))), .inr (.inr (some (.inr 5))), .inr (.inr (some (.inr 6))), .inr (.inr (some (.inr 7))), .inr (.inr (some (.inr 8))), .inr (.inr (some (.inr 9))), .inr (.inr (some (.inr 10))), .inr (.inr (some (.inr 11))), .inr (.inr (some (.inr 12))), .inr (.inr (some (.inr 13))), .inr (.inr (some (.inr 14))), .inr (.inr (some (.inr 15))), .inr (.inr (some (.inr 16))), .inr (.inr (some (.inr 17))), .inr (.inr (some (.inl 5))), .inr (.inr (some (.inl 6))), .inr (.inr (some (.inl 7))), .inr (.inr (some (.inl 8))), .inl (-2147483648, 2147483647), .inl (-2147483648, 2147483647), .inl (-2147483648, 2147483647), .inl (-2147483648, 2147483647), .inl (-2147483648, 2147483647), .inl (-2147483648, 2147483647), .inl (-2147483648, 2147483647), .inl (-2147483648, 2147483647), .inl (-2147483648, 2147483647), .inl (-2147483648, 2147483647), .inr (.inr (some (.inr 18))), .inr (.inr (some (.inr 19))), .inr (.inr (some (.inr 20))), .inr (.inr (some (.inr 21))), .inr (.inr (some (.inr 22))), .inr (.inr (some (.inr 201)))]), .inl (600, 130, 0, 383), .inl (1028, 48, 0, 7), .inl (1032, 48, 0, 2), .inl (1005, 260, -128, 127), .inl (0, 48, 0, 23), .inl (0, 2, -2147483648, 2147483647), .inl (0, 2, -2147483648, 2147483647), .inl (0, 2, -2147483648, 2147483647)]
def HY_sheet20R : List AC := hc_3d9ad22d30
set_option maxRecDepth 100000 in
theorem x_sheet20R {l : Launch} {n : Nat} (h1 : 1 ≤ n ∧ n ≤ 20) : conOkX (MetP l 3 yX12_sheet cX12_sheet 4 (some .int) 0 0) [nI n] HX_sheet20R HY_sheet20R (fun t => Nat.beq t 205 || (Nat.beq t 257 || Nat.beq t 258)) (fun _ => True) (fun τ τ' y => shY (ob (fun i => f_and (decA (τ 251) i) 255)) n y ∧ shQ (ob (fun i => f_and (decA (τ 251) i) 255)) n (decA (τ 205) 0) (decA (τ' 205) 0) (decA (τ 257)) (decA (τ' 257)) (decA (τ 258)) (decA (τ' 258)) ∧ (∀ i, i < 48 → 0 ≤ (decA (τ' 257) i).toInt ∧ (decA (τ' 257) i).toInt ≤ 7) ∧ (∀ i, i < 48 → 0 ≤ (decA (τ' 258) i).toInt ∧ (decA (τ' 258) i).toInt ≤ 2)) := by
  intro τ hΦ hP h hh
  have z := all2_cons hh
  clear hh
  obtain ⟨e0, h, rfl, g0, hh⟩ := z
  rcases e0 with ⟨t0, n0, f0⟩ | ⟨ci, fs⟩
  · exact g0.elim
  obtain ⟨rfl, gf⟩ := g0
  have z := all2_cons gf
  clear gf
  obtain ⟨v0, fs, rfl, q0, gf⟩ := z
  cases (q0 : v0 = .inr (some (.inl 1)))
  have z := all2_cons gf
  clear gf
  obtain ⟨v0, fs, rfl, q0, gf⟩ := z
  cases gT_r (τ := τ) (t := 0) (v := v0) rfl q0
  have z := all2_cons gf
  clear gf
  obtain ⟨v0, fs, rfl, q0, gf⟩ := z
  cases gT_r (τ := τ) (t := 1) (v := v0) rfl q0
  have z := all2_cons gf
  clear gf
  obtain ⟨v0, fs, rfl, q0, gf⟩ := z
  cases gT_r (τ := τ) (t := 2) (v := v0) rfl q0
  have z := all2_cons gf
  clear gf
  obtain ⟨v0, fs, rfl, q0, gf⟩ := z
  cases (q0 : v0 = .inr (some (.inl 2)))
  have z := all2_cons gf
  clear gf
  obtain ⟨v0, fs, rfl, q0, gf⟩ := z
  cases (q0 : v0 = .inr (some (.inl 3)))
  have z := all2_cons gf
  clear gf
  obtain ⟨v0, fs, rfl, q0, gf⟩ := z
  cases gT_r (τ := τ) (t := 3) (v := v0) rfl q0
  have z := all2_cons gf
  clear gf
  obtain ⟨v0, fs, rfl, q0, gf⟩ := z
  cases gT_r (τ := τ) (t := 4) (v := v0) rfl q0
  have z := all2_cons gf
  clear gf
  obtain ⟨v0, fs, rfl, q0, gf⟩ := z
  obtain ⟨M_stampMany, rfl, e_M_stampMany, b_M_stampMany⟩ := gT_x (τ := τ) (t := 205) (v := v0) rfl q0
  have z := all2_cons gf
  clear gf
  obtain ⟨v0, fs, rfl, q0, gf⟩ := z
  cases (q0 : v0 = .inr (some (.inl 4)))
  have z := all2_cons gf
  clear gf
  obtain ⟨v0, fs, rfl, q0, gf⟩ := z
  obtain ⟨M_taped, rfl, b_M_taped⟩ := q0
  have z := all2_cons gf
  clear gf
  obtain ⟨v0, fs, rfl, q0, gf⟩ := z
  obtain ⟨M_place0, rfl, b_M_place0⟩ := q0
  have z := all2_cons gf
  clear gf
  obtain ⟨v0, fs, rfl, q0, gf⟩ := z
  obtain ⟨M_length0, rfl, b_M_length0⟩ := q0
  have z := all2_cons gf
  clear gf
  obtain ⟨v0, fs, rfl, q0, gf⟩ := z
  obtain ⟨M_fault, rfl, b_M_fault⟩ := q0
  have z := all2_cons gf
  clear gf
  obtain ⟨v0, fs, rfl, q0, gf⟩ := z
  obtain ⟨M_number0, rfl, b_M_number0⟩ := q0
  have z := all2_cons gf
  clear gf
  obtain ⟨v0, fs, rfl, q0, gf⟩ := z
  obtain ⟨M_open, rfl, b_M_open⟩ := q0
  have z := all2_cons gf
  clear gf
  obtain ⟨v0, fs, rfl, q0, gf⟩ := z
  obtain ⟨M_codeMany, rfl, b_M_codeMany⟩ := q0
  have z := all2_cons gf
  clear gf
  obtain ⟨v0, fs, rfl, q0, gf⟩ := z
  obtain ⟨M_waiting, rfl, b_M_waiting⟩ := q0
  have z := all2_cons gf
  clear gf
  obtain ⟨v0, fs, rfl, q0, gf⟩ := z
  obtain ⟨M_saidMany, rfl, b_M_saidMany⟩ := q0
  have z := all2_cons gf
  clear gf
  obtain ⟨v0, fs, rfl, q0, gf⟩ := z
  obtain ⟨M_clauses, rfl, e_M_clauses, b_M_clauses⟩ := gT_x (τ := τ) (t := 200) (v := v0) rfl q0
  have z := all2_cons gf
  clear gf
  obtain ⟨v0, fs, rfl, q0, gf⟩ := z
  cases gT_r (τ := τ) (t := 5) (v := v0) rfl q0
  have z := all2_cons gf
  clear gf
  obtain ⟨v0, fs, rfl, q0, gf⟩ := z
  cases gT_r (τ := τ) (t := 6) (v := v0) rfl q0
  have z := all2_cons gf
  clear gf
  obtain ⟨v0, fs, rfl, q0, gf⟩ := z
  cases gT_r (τ := τ) (t := 7) (v := v0) rfl q0
  have z := all2_cons gf
  clear gf
  obtain ⟨v0, fs, rfl, q0, gf⟩ := z
  cases gT_r (τ := τ) (t := 8) (v := v0) rfl q0
  have z := all2_cons gf
  clear gf
  obtain ⟨v0, fs, rfl, q0, gf⟩ := z
  cases gT_r (τ := τ) (t := 9) (v := v0) rfl q0
  have z := all2_cons gf
  clear gf
  obtain ⟨v0, fs, rfl, q0, gf⟩ := z
  cases gT_r (τ := τ) (t := 10) (v := v0) rfl q0
  have z := all2_cons gf
  clear gf
  obtain ⟨v0, fs, rfl, q0, gf⟩ := z
  cases gT_r (τ := τ) (t := 11) (v := v0) rfl q0
  have z := all2_cons gf
  clear gf
  obtain ⟨v0, fs, rfl, q0, gf⟩ := z
  cases gT_r (τ := τ) (t := 12) (v := v0) rfl q0
  have z := all2_cons gf
  clear gf
  obtain ⟨v0, fs, rfl, q0, gf⟩ := z
  cases gT_r (τ := τ) (t := 13) (v := v0) rfl q0
  have z := all2_cons gf
  clear gf
  obtain ⟨v0, fs, rfl, q0, gf⟩ := z
  cases gT_r (τ := τ) (t := 14) (v := v0) rfl q0
  have z := all2_cons gf
  clear gf
  obtain ⟨v0, fs, rfl, q0, gf⟩ := z
  cases gT_r (τ := τ) (t := 15) (v := v0) rfl q0
  have z := all2_cons gf
  clear gf
  obtain ⟨v0, fs, rfl, q0, gf⟩ := z
  cases gT_r (τ := τ) (t := 16) (v := v0) rfl q0
  have z := all2_cons gf
  clear gf
  obtain ⟨v0, fs, rfl, q0, gf⟩ := z
  cases gT_r (τ := τ) (t := 17) (v := v0) rfl q0
  have z := all2_cons gf
  clear gf
  obtain ⟨v0, fs, rfl, q0, gf⟩ := z
  cases (q0 : v0 = .inr (some (.inl 5)))
  have z := all2_cons gf
  clear gf
  obtain ⟨v0, fs, rfl, q0, gf⟩ := z
  cases (q0 : v0 = .inr (some (.inl 6)))
  have z := all2_cons gf
  clear gf
  obtain ⟨v0, fs, rfl, q0, gf⟩ := z
  cases (q0 : v0 = .inr (some (.inl 7)))
  have z := all2_cons gf
  clear gf
  obtain ⟨v0, fs, rfl, q0, gf⟩ := z
  cases (q0 : v0 = .inr (some (.inl 8)))
  have z := all2_cons gf
  clear gf
  obtain ⟨v0, fs, rfl, q0, gf⟩ := z
  obtain ⟨M_newMany, rfl, b_M_newMany⟩ := q0
  have z := all2_cons gf
  clear gf
  obtain ⟨v0, fs, rfl, q0, gf⟩ := z
  obtain ⟨M_rounds, rfl, b_M_rounds⟩ := q0
  have z := all2_cons gf
  clear gf
  obtain ⟨v0, fs, rfl, q0, gf⟩ := z
  obtain ⟨M_stampFrom, rfl, b_M_stampFrom⟩ := q0
  have z := all2_cons gf
  clear gf
  obtain ⟨v0, fs, rfl, q0, gf⟩ := z
  obtain ⟨M_stampTimes, rfl, b_M_stampTimes⟩ := q0
  have z := all2_cons gf
  clear gf
  obtain ⟨v0, fs, rfl, q0, gf⟩ := z
  obtain ⟨M_lines, rfl, b_M_lines⟩ := q0
  have z := all2_cons gf
  clear gf
  obtain ⟨v0, fs, rfl, q0, gf⟩ := z
  obtain ⟨M_spot0, rfl, b_M_spot0⟩ := q0
  have z := all2_cons gf
  clear gf
  obtain ⟨v0, fs, rfl, q0, gf⟩ := z
  obtain ⟨M_pullAcross, rfl, b_M_pullAcross⟩ := q0
  have z := all2_cons gf
  clear gf
  obtain ⟨v0, fs, rfl, q0, gf⟩ := z
  obtain ⟨M_pullAlong, rfl, b_M_pullAlong⟩ := q0
  have z := all2_cons gf
  clear gf
  obtain ⟨v0, fs, rfl, q0, gf⟩ := z
  obtain ⟨M_stepsNow, rfl, b_M_stepsNow⟩ := q0
  have z := all2_cons gf
  clear gf
  obtain ⟨v0, fs, rfl, q0, gf⟩ := z
  obtain ⟨M_fallenNow, rfl, b_M_fallenNow⟩ := q0
  have z := all2_cons gf
  clear gf
  obtain ⟨v0, fs, rfl, q0, gf⟩ := z
  cases gT_r (τ := τ) (t := 18) (v := v0) rfl q0
  have z := all2_cons gf
  clear gf
  obtain ⟨v0, fs, rfl, q0, gf⟩ := z
  cases gT_r (τ := τ) (t := 19) (v := v0) rfl q0
  have z := all2_cons gf
  clear gf
  obtain ⟨v0, fs, rfl, q0, gf⟩ := z
  cases gT_r (τ := τ) (t := 20) (v := v0) rfl q0
  have z := all2_cons gf
  clear gf
  obtain ⟨v0, fs, rfl, q0, gf⟩ := z
  cases gT_r (τ := τ) (t := 21) (v := v0) rfl q0
  have z := all2_cons gf
  clear gf
  obtain ⟨v0, fs, rfl, q0, gf⟩ := z
  cases gT_r (τ := τ) (t := 22) (v := v0) rfl q0
  have z := all2_cons gf
  clear gf
  obtain ⟨v0, fs, rfl, q0, gf⟩ := z
  obtain ⟨M_isKept, rfl, e_M_isKept, b_M_isKept⟩ := gT_x (τ := τ) (t := 201) (v := v0) rfl q0
  cases fs with
  | cons _ _ => exact gf.elim
  | nil =>
    have z := all2_cons hh
    clear hh
    obtain ⟨e1, h, rfl, g1, hh⟩ := z
    rcases e1 with ⟨t1, n1, M_now⟩ | ⟨ci, fs⟩
    rotate_left
    · exact g1.elim
    obtain ⟨et, en, b_M_now⟩ := g1
    cases (et : t1 = 0)
    cases en
    have z := all2_cons hh
    clear hh
    obtain ⟨e1, h, rfl, g1, hh⟩ := z
    rcases e1 with ⟨t1, n1, M_mintOf⟩ | ⟨ci, fs⟩
    rotate_left
    · exact g1.elim
    obtain ⟨et, en, b_M_mintOf⟩ := g1
    cases (et : t1 = 0)
    cases en
    have z := all2_cons hh
    clear hh
    obtain ⟨e1, h, rfl, g1, hh⟩ := z
    rcases e1 with ⟨t1, n1, M_wholeOf⟩ | ⟨ci, fs⟩
    rotate_left
    · exact g1.elim
    obtain ⟨et, en, b_M_wholeOf⟩ := g1
    cases (et : t1 = 0)
    cases en
    have z := all2_cons hh
    clear hh
    obtain ⟨e1, h, rfl, g1, hh⟩ := z
    rcases e1 with ⟨t1, n1, M_tape⟩ | ⟨ci, fs⟩
    rotate_left
    · exact g1.elim
    obtain ⟨et, en, b_M_tape⟩ := g1
    cases (et : t1 = 1)
    cases en
    have z := all2_cons hh
    clear hh
    obtain ⟨e1, h, rfl, g1, hh⟩ := z
    rcases e1 with ⟨t1, n1, M_newStamps⟩ | ⟨ci, fs⟩
    rotate_left
    · exact g1.elim
    obtain ⟨et, en, b_M_newStamps⟩ := g1
    cases (et : t1 = 0)
    cases en
    have z := all2_cons hh
    clear hh
    obtain ⟨e1, h, rfl, g1, hh⟩ := z
    rcases e1 with ⟨t1, n1, M_roundFrom⟩ | ⟨ci, fs⟩
    rotate_left
    · exact g1.elim
    obtain ⟨et, en, b_M_roundFrom⟩ := g1
    cases (et : t1 = 0)
    cases en
    have z := all2_cons hh
    clear hh
    obtain ⟨e1, h, rfl, g1, hh⟩ := z
    rcases e1 with ⟨t1, n1, M_roundAt⟩ | ⟨ci, fs⟩
    rotate_left
    · exact g1.elim
    obtain ⟨et, en, b_M_roundAt⟩ := g1
    cases (et : t1 = 0)
    cases en
    have z := all2_cons hh
    clear hh
    obtain ⟨e1, h, rfl, g1, hh⟩ := z
    rcases e1 with ⟨t1, n1, M_roundTimes⟩ | ⟨ci, fs⟩
    rotate_left
    · exact g1.elim
    obtain ⟨et, en, b_M_roundTimes⟩ := g1
    cases (et : t1 = 0)
    cases en
    cases h with
    | cons _ _ => exact hh.elim
    | nil =>
      obtain ⟨s, hs, rfl⟩ := rng_n (x := M_taped) (k := 260) (by omega) b_M_taped.2
      have es := sz_n (c := s) (by omega)
      obtain ⟨rF, eF⟩ := rg_x rfl b_M_tape
      obtain ⟨rMO, eMO⟩ := rg_x rfl b_M_mintOf
      obtain ⟨rGR, eGR⟩ := rg_x rfl b_M_wholeOf
      refine (x_X12_sheet (b := ob (fun i => f_and (decA (τ 251) i) 255)) (s := s) h1.1 (by omega) hs (by omega) (fun i hi => ob_ok (f := fun i => f_and (decA (τ 251) i) 255) (F := fun i => f_and (M_tape i) 255) (by omega) (by show f_and (M_tape i) 255 = f_and (decA (τ 251) i) 255; rw [eF i (by omega)]) oct_rng) (seg6_of (t := 600) rfl rfl b_M_now) rMO rGR (rg_of b_M_newStamps) b_M_stampMany).mono (fun r h' hp => ?_)
      obtain ⟨y, nw, mo, gr, ns, rf, ra, rt, sm, pp, f, nm, rd, sf, st, rfl, kQ, hst, k1, k2, k3, k4, k5, k6, rfl⟩ := hp
      have hq : shQ (ob (fun i => f_and (decA (τ 251) i) 255)) n (decA (τ 205) 0) (decA ((upL (upL (upL τ 257 (encA mo 48)) 258 (encA gr 48)) 205 [some (natOf sm)]) 205) 0) (decA (τ 257)) (decA ((upL (upL (upL τ 257 (encA mo 48)) 258 (encA gr 48)) 205 [some (natOf sm)]) 257)) (decA (τ 258)) (decA ((upL (upL (upL τ 257 (encA mo 48)) 258 (encA gr 48)) 205 [some (natOf sm)]) 258)) := by
        rcases hst with ⟨z1, z2, z3, z4⟩ | ⟨c, g, hc, z1, z2, z3⟩
        · refine Or.inl ⟨((natOf_ok _).trans z1).trans e_M_stampMany, fun i hi => ?_, fun i hi => ?_, z4⟩
          · exact (encA_ok hi).trans (by rw [z2]; exact eMO i hi)
          · exact (encA_ok hi).trans (by rw [z3]; exact eGR i hi)
        · exact Or.inr ⟨c, g, hc, (natOf_ok _).trans z1, z2, fun i hi => ⟨(encA_ok (Nat.lt_of_lt_of_le hi hc)).trans (z3 i hi).1, (encA_ok (Nat.lt_of_lt_of_le hi hc)).trans (z3 i hi).2⟩⟩
      exact ⟨upL (upL (upL τ 257 (encA mo 48)) 258 (encA gr 48)) 205 [some (natOf sm)], y, hΦ, fun t ht => (upL_ne (ch_s ht rfl rfl rfl).1).trans ((upL_ne (ch_s ht rfl rfl rfl).2.2).trans (upL_ne (ch_s ht rfl rfl rfl).2.1)), rfl, ⟨kQ, hq, fun i hi => by show 0 ≤ (decA (encA mo 48) i).toInt ∧ (decA (encA mo 48) i).toInt ≤ 7; rw [encA_ok hi]; exact k2 i hi, fun i hi => by show 0 ≤ (decA (encA gr 48) i).toInt ∧ (decA (encA gr 48) i).toInt ≤ 2; rw [encA_ok hi]; exact k3 i hi⟩, ⟨⟨rfl, rfl, rfl, rfl, rfl, rfl, rfl, rfl, rfl, gT_mk (t := 205) rfl (natOf_ok _).symm k5, rfl, ⟨0, rfl, by decide, by decide⟩, ⟨_, rfl, k6⟩, ⟨_, rfl, nr240 (by omega)⟩, topA_ok _, ⟨_, rfl, b_M_number0⟩, ⟨_, rfl, b_M_open⟩, ⟨0, rfl, by decide, by decide⟩, ⟨_, rfl, b_M_waiting⟩, ⟨0, rfl, by decide, by decide⟩, gT_mk rfl e_M_clauses b_M_clauses, rfl, rfl, rfl, rfl, rfl, rfl, rfl, rfl, rfl, rfl, rfl, rfl, rfl, rfl, rfl, rfl, rfl, topA_ok _, topA_ok _, topA_ok _, topA_ok _, ⟨_, rfl, b_M_lines⟩, ⟨_, rfl, b_M_spot0⟩, ⟨_, rfl, b_M_pullAcross⟩, ⟨_, rfl, b_M_pullAlong⟩, ⟨_, rfl, b_M_stepsNow⟩, ⟨_, rfl, b_M_fallenNow⟩, rfl, rfl, rfl, rfl, rfl, gT_mk rfl e_M_isKept b_M_isKept, trivial⟩, ⟨rfl, rfl, of_seg6 k1⟩, ⟨rfl, rfl, of_x rfl k2 (fun i hi => (encA_ok hi).symm)⟩, ⟨rfl, rfl, of_x rfl k3 (fun i hi => (encA_ok hi).symm)⟩, ⟨rfl, rfl, b_M_tape⟩, ⟨rfl, rfl, of_rg k4⟩, ⟨rfl, rfl, of_rg rg_top⟩, ⟨rfl, rfl, of_rg rg_top⟩, ⟨rfl, rfl, of_rg rg_top⟩, trivial⟩⟩

def HX_sheet40C : List AC := [.inr (10, [.inr (.inr (some (.inl 1))), .inr (.inr (some (.inl 6))), .inr (.inr (some (.inl 12))), .inr (.inr (some (.inr 0))), .inr (.inr (some (.inr 1))), .inr (.inr (some (.inr 2))), .inr (.inr (some (.inr 3))), .inr (.inr (some (.inr 4))), .inr (.inr (some (.inl 3))), .inr (.inr (some (.inr 5))), .inr (.inr (some (.inr 6))), .inr (.inr (some (.inr 7))), .inr (.inr (some (.inr 8))), .inr (.inr (some (.inr 9))), .inr (.inr (some (.inr 201)))]), .inr (9, [.inr (.inr (some (.inl 2))), .inl (40, 260)]), .inl (1000, 260, 0, 255), .inr (8, [.inr (.inr (some (.inl 2))), .inl (-2147483648, 2147483647), .inl (-2147483648, 2147483647), .inl (-2147483648, 2147483647), .inl (-2147483648, 2147483647), .inr (.inr (some (.inl 4))), .inr (.inr (some (.inl 5))), .inl (0, 48)]), .inl (0, 48, -2147483648, 2147483647), .inl (0, 48, -2147483648, 2147483647), .inr (6, [.inr (.inr (some (.inl 7))), .inr (.inr (some (.inl 8))), .inr (.inr (some (.inl 9))), .inr (.inr (some (.inl 10))), .inr (.inr (some (.inl 11))), .inr (.inr (some (.inr 203))), .inl (-2147483648, 2147483647), .inr (.inr (some (.inr 204)))]), .inl (1008, 8, -2147483648, 2147483647), .inl (1012, 8, -2147483648, 2147483647), .inl (1054, 384, 0, 1), .inl (1020, 48, -2147483648, 2147483647), .inl (1024, 48, -2147483648, 2147483647), .inr (4, [.inr (.inr (some (.inl 13))), .inr (.inr (some (.inl 14))), .inr (.inr (some (.inl 15))), .inr (.inr (some (.inl 16))), .inr (.inr (some (.inr 206))), .inl (-2147483648, 2147483647), .inl (-2147483648, 2147483647), .inl (-2147483648, 2147483647)]), .inl (0, 8, -2147483648, 2147483647), .inl (0, 8, -2147483648, 2147483647), .inl (0, 48, -2147483648, 2147483647), .inl (0, 48, -2147483648, 2147483647)]
def HY_sheet40C : List AC := hc_ef9b4feb14
set_option maxRecDepth 100000 in
theorem x_sheet40C {l : Launch} {n : Nat} (h1 : 1 ≤ n ∧ n ≤ 40) : conOkX (MetP l 102 yX11_sheet cX11_sheet 3 (some .int) 0 0) [nI n] HX_sheet40C HY_sheet40C (fun t => Nat.beq t 204 || (Nat.beq t 255 || Nat.beq t 256)) (fun _ => True) (fun τ τ' y => shY (ob (decA (τ 250))) n y ∧ shQ (ob (decA (τ 250))) n (decA (τ 204) 0) (decA (τ' 204) 0) (decA (τ 255)) (decA (τ' 255)) (decA (τ 256)) (decA (τ' 256))) := by
  intro τ hΦ hP h hh
  have z := all2_cons hh
  clear hh
  obtain ⟨e0, h, rfl, g0, hh⟩ := z
  rcases e0 with ⟨t0, n0, f0⟩ | ⟨ci, fs⟩
  · exact g0.elim
  obtain ⟨rfl, gf⟩ := g0
  have z := all2_cons gf
  clear gf
  obtain ⟨v0, fs, rfl, q0, gf⟩ := z
  cases (q0 : v0 = .inr (some (.inl 1)))
  have z := all2_cons gf
  clear gf
  obtain ⟨v0, fs, rfl, q0, gf⟩ := z
  cases (q0 : v0 = .inr (some (.inl 6)))
  have z := all2_cons gf
  clear gf
  obtain ⟨v0, fs, rfl, q0, gf⟩ := z
  cases (q0 : v0 = .inr (some (.inl 12)))
  have z := all2_cons gf
  clear gf
  obtain ⟨v0, fs, rfl, q0, gf⟩ := z
  cases gT_r (τ := τ) (t := 0) (v := v0) rfl q0
  have z := all2_cons gf
  clear gf
  obtain ⟨v0, fs, rfl, q0, gf⟩ := z
  cases gT_r (τ := τ) (t := 1) (v := v0) rfl q0
  have z := all2_cons gf
  clear gf
  obtain ⟨v0, fs, rfl, q0, gf⟩ := z
  cases gT_r (τ := τ) (t := 2) (v := v0) rfl q0
  have z := all2_cons gf
  clear gf
  obtain ⟨v0, fs, rfl, q0, gf⟩ := z
  cases gT_r (τ := τ) (t := 3) (v := v0) rfl q0
  have z := all2_cons gf
  clear gf
  obtain ⟨v0, fs, rfl, q0, gf⟩ := z
  cases gT_r (τ := τ) (t := 4) (v := v0) rfl q0
  have z := all2_cons gf
  clear gf
  obtain ⟨v0, fs, rfl, q0, gf⟩ := z
  cases (q0 : v0 = .inr (some (.inl 3)))
  have z := all2_cons gf
  clear gf
  obtain ⟨v0, fs, rfl, q0, gf⟩ := z
  cases gT_r (τ := τ) (t := 5) (v := v0) rfl q0
  have z := all2_cons gf
  clear gf
  obtain ⟨v0, fs, rfl, q0, gf⟩ := z
  cases gT_r (τ := τ) (t := 6) (v := v0) rfl q0
  have z := all2_cons gf
  clear gf
  obtain ⟨v0, fs, rfl, q0, gf⟩ := z
  cases gT_r (τ := τ) (t := 7) (v := v0) rfl q0
  have z := all2_cons gf
  clear gf
  obtain ⟨v0, fs, rfl, q0, gf⟩ := z
  cases gT_r (τ := τ) (t := 8) (v := v0) rfl q0
  have z := all2_cons gf
  clear gf
  obtain ⟨v0, fs, rfl, q0, gf⟩ := z
  cases gT_r (τ := τ) (t := 9) (v := v0) rfl q0
  have z := all2_cons gf
  clear gf
  obtain ⟨v0, fs, rfl, q0, gf⟩ := z
  obtain ⟨HS_wasKept, rfl, e_HS_wasKept, b_HS_wasKept⟩ := gT_x (τ := τ) (t := 201) (v := v0) rfl q0
  cases fs with
  | cons _ _ => exact gf.elim
  | nil =>
    have z := all2_cons hh
    clear hh
    obtain ⟨e0, h, rfl, g0, hh⟩ := z
    rcases e0 with ⟨t0, n0, f0⟩ | ⟨ci, fs⟩
    · exact g0.elim
    obtain ⟨rfl, gf⟩ := g0
    have z := all2_cons gf
    clear gf
    obtain ⟨v0, fs, rfl, q0, gf⟩ := z
    cases (q0 : v0 = .inr (some (.inl 2)))
    have z := all2_cons gf
    clear gf
    obtain ⟨v0, fs, rfl, q0, gf⟩ := z
    obtain ⟨Tape_size, rfl, b_Tape_size⟩ := q0
    cases fs with
    | cons _ _ => exact gf.elim
    | nil =>
      have z := all2_cons hh
      clear hh
      obtain ⟨e1, h, rfl, g1, hh⟩ := z
      rcases e1 with ⟨t1, n1, Tape_bytes⟩ | ⟨ci, fs⟩
      rotate_left
      · exact g1.elim
      obtain ⟨et, en, b_Tape_bytes⟩ := g1
      cases (et : t1 = 0)
      cases en
      have z := all2_cons hh
      clear hh
      obtain ⟨e0, h, rfl, g0, hh⟩ := z
      rcases e0 with ⟨t0, n0, f0⟩ | ⟨ci, fs⟩
      · exact g0.elim
      obtain ⟨rfl, gf⟩ := g0
      have z := all2_cons gf
      clear gf
      obtain ⟨v0, fs, rfl, q0, gf⟩ := z
      cases (q0 : v0 = .inr (some (.inl 2)))
      have z := all2_cons gf
      clear gf
      obtain ⟨v0, fs, rfl, q0, gf⟩ := z
      obtain ⟨SR_end, rfl, b_SR_end⟩ := q0
      have z := all2_cons gf
      clear gf
      obtain ⟨v0, fs, rfl, q0, gf⟩ := z
      obtain ⟨SR_at, rfl, b_SR_at⟩ := q0
      have z := all2_cons gf
      clear gf
      obtain ⟨v0, fs, rfl, q0, gf⟩ := z
      obtain ⟨SR_ahead, rfl, b_SR_ahead⟩ := q0
      have z := all2_cons gf
      clear gf
      obtain ⟨v0, fs, rfl, q0, gf⟩ := z
      obtain ⟨SR_fault, rfl, b_SR_fault⟩ := q0
      have z := all2_cons gf
      clear gf
      obtain ⟨v0, fs, rfl, q0, gf⟩ := z
      cases (q0 : v0 = .inr (some (.inl 4)))
      have z := all2_cons gf
      clear gf
      obtain ⟨v0, fs, rfl, q0, gf⟩ := z
      cases (q0 : v0 = .inr (some (.inl 5)))
      have z := all2_cons gf
      clear gf
      obtain ⟨v0, fs, rfl, q0, gf⟩ := z
      obtain ⟨SR_size, rfl, b_SR_size⟩ := q0
      cases fs with
      | cons _ _ => exact gf.elim
      | nil =>
        have z := all2_cons hh
        clear hh
        obtain ⟨e1, h, rfl, g1, hh⟩ := z
        rcases e1 with ⟨t1, n1, SR_mint⟩ | ⟨ci, fs⟩
        rotate_left
        · exact g1.elim
        obtain ⟨et, en, b_SR_mint⟩ := g1
        cases (et : t1 = 0)
        cases en
        have z := all2_cons hh
        clear hh
        obtain ⟨e1, h, rfl, g1, hh⟩ := z
        rcases e1 with ⟨t1, n1, SR_grains⟩ | ⟨ci, fs⟩
        rotate_left
        · exact g1.elim
        obtain ⟨et, en, b_SR_grains⟩ := g1
        cases (et : t1 = 0)
        cases en
        have z := all2_cons hh
        clear hh
        obtain ⟨e0, h, rfl, g0, hh⟩ := z
        rcases e0 with ⟨t0, n0, f0⟩ | ⟨ci, fs⟩
        · exact g0.elim
        obtain ⟨rfl, gf⟩ := g0
        have z := all2_cons gf
        clear gf
        obtain ⟨v0, fs, rfl, q0, gf⟩ := z
        cases (q0 : v0 = .inr (some (.inl 7)))
        have z := all2_cons gf
        clear gf
        obtain ⟨v0, fs, rfl, q0, gf⟩ := z
        cases (q0 : v0 = .inr (some (.inl 8)))
        have z := all2_cons gf
        clear gf
        obtain ⟨v0, fs, rfl, q0, gf⟩ := z
        cases (q0 : v0 = .inr (some (.inl 9)))
        have z := all2_cons gf
        clear gf
        obtain ⟨v0, fs, rfl, q0, gf⟩ := z
        cases (q0 : v0 = .inr (some (.inl 10)))
        have z := all2_cons gf
        clear gf
        obtain ⟨v0, fs, rfl, q0, gf⟩ := z
        cases (q0 : v0 = .inr (some (.inl 11)))
        have z := all2_cons gf
        clear gf
        obtain ⟨v0, fs, rfl, q0, gf⟩ := z
        obtain ⟨Rep_toldMints, rfl, e_Rep_toldMints, b_Rep_toldMints⟩ := gT_x (τ := τ) (t := 203) (v := v0) rfl q0
        have z := all2_cons gf
        clear gf
        obtain ⟨v0, fs, rfl, q0, gf⟩ := z
        obtain ⟨Rep_walls, rfl, b_Rep_walls⟩ := q0
        have z := all2_cons gf
        clear gf
        obtain ⟨v0, fs, rfl, q0, gf⟩ := z
        obtain ⟨Rep_stamps, rfl, e_Rep_stamps, b_Rep_stamps⟩ := gT_x (τ := τ) (t := 204) (v := v0) rfl q0
        cases fs with
        | cons _ _ => exact gf.elim
        | nil =>
          have z := all2_cons hh
          clear hh
          obtain ⟨e1, h, rfl, g1, hh⟩ := z
          rcases e1 with ⟨t1, n1, Rep_mintX⟩ | ⟨ci, fs⟩
          rotate_left
          · exact g1.elim
          obtain ⟨et, en, b_Rep_mintX⟩ := g1
          cases (et : t1 = 0)
          cases en
          have z := all2_cons hh
          clear hh
          obtain ⟨e1, h, rfl, g1, hh⟩ := z
          rcases e1 with ⟨t1, n1, Rep_mintY⟩ | ⟨ci, fs⟩
          rotate_left
          · exact g1.elim
          obtain ⟨et, en, b_Rep_mintY⟩ := g1
          cases (et : t1 = 0)
          cases en
          have z := all2_cons hh
          clear hh
          obtain ⟨e1, h, rfl, g1, hh⟩ := z
          rcases e1 with ⟨t1, n1, Rep_wall⟩ | ⟨ci, fs⟩
          rotate_left
          · exact g1.elim
          obtain ⟨et, en, b_Rep_wall⟩ := g1
          cases (et : t1 = 2)
          cases en
          have z := all2_cons hh
          clear hh
          obtain ⟨e1, h, rfl, g1, hh⟩ := z
          rcases e1 with ⟨t1, n1, Rep_mintOf⟩ | ⟨ci, fs⟩
          rotate_left
          · exact g1.elim
          obtain ⟨et, en, b_Rep_mintOf⟩ := g1
          cases (et : t1 = 0)
          cases en
          have z := all2_cons hh
          clear hh
          obtain ⟨e1, h, rfl, g1, hh⟩ := z
          rcases e1 with ⟨t1, n1, Rep_grainsOf⟩ | ⟨ci, fs⟩
          rotate_left
          · exact g1.elim
          obtain ⟨et, en, b_Rep_grainsOf⟩ := g1
          cases (et : t1 = 0)
          cases en
          have z := all2_cons hh
          clear hh
          obtain ⟨e0, h, rfl, g0, hh⟩ := z
          rcases e0 with ⟨t0, n0, f0⟩ | ⟨ci, fs⟩
          · exact g0.elim
          obtain ⟨rfl, gf⟩ := g0
          have z := all2_cons gf
          clear gf
          obtain ⟨v0, fs, rfl, q0, gf⟩ := z
          cases (q0 : v0 = .inr (some (.inl 13)))
          have z := all2_cons gf
          clear gf
          obtain ⟨v0, fs, rfl, q0, gf⟩ := z
          cases (q0 : v0 = .inr (some (.inl 14)))
          have z := all2_cons gf
          clear gf
          obtain ⟨v0, fs, rfl, q0, gf⟩ := z
          cases (q0 : v0 = .inr (some (.inl 15)))
          have z := all2_cons gf
          clear gf
          obtain ⟨v0, fs, rfl, q0, gf⟩ := z
          cases (q0 : v0 = .inr (some (.inl 16)))
          have z := all2_cons gf
          clear gf
          obtain ⟨v0, fs, rfl, q0, gf⟩ := z
          obtain ⟨Now_told, rfl, e_Now_told, b_Now_told⟩ := gT_x (τ := τ) (t := 206) (v := v0) rfl q0
          have z := all2_cons gf
          clear gf
          obtain ⟨v0, fs, rfl, q0, gf⟩ := z
          obtain ⟨Now_walled, rfl, b_Now_walled⟩ := q0
          have z := all2_cons gf
          clear gf
          obtain ⟨v0, fs, rfl, q0, gf⟩ := z
          obtain ⟨Now_day, rfl, b_Now_day⟩ := q0
          have z := all2_cons gf
          clear gf
          obtain ⟨v0, fs, rfl, q0, gf⟩ := z
          obtain ⟨Now_drawState, rfl, b_Now_drawState⟩ := q0
          cases fs with
          | cons _ _ => exact gf.elim
          | nil =>
            have z := all2_cons hh
            clear hh
            obtain ⟨e1, h, rfl, g1, hh⟩ := z
            rcases e1 with ⟨t1, n1, Now_place⟩ | ⟨ci, fs⟩
            rotate_left
            · exact g1.elim
            obtain ⟨et, en, b_Now_place⟩ := g1
            cases (et : t1 = 0)
            cases en
            have z := all2_cons hh
            clear hh
            obtain ⟨e1, h, rfl, g1, hh⟩ := z
            rcases e1 with ⟨t1, n1, Now_paste⟩ | ⟨ci, fs⟩
            rotate_left
            · exact g1.elim
            obtain ⟨et, en, b_Now_paste⟩ := g1
            cases (et : t1 = 0)
            cases en
            have z := all2_cons hh
            clear hh
            obtain ⟨e1, h, rfl, g1, hh⟩ := z
            rcases e1 with ⟨t1, n1, Now_letter⟩ | ⟨ci, fs⟩
            rotate_left
            · exact g1.elim
            obtain ⟨et, en, b_Now_letter⟩ := g1
            cases (et : t1 = 0)
            cases en
            have z := all2_cons hh
            clear hh
            obtain ⟨e1, h, rfl, g1, hh⟩ := z
            rcases e1 with ⟨t1, n1, Now_used⟩ | ⟨ci, fs⟩
            rotate_left
            · exact g1.elim
            obtain ⟨et, en, b_Now_used⟩ := g1
            cases (et : t1 = 0)
            cases en
            cases h with
            | cons _ _ => exact hh.elim
            | nil =>
              obtain ⟨s, hs, rfl⟩ := rng_n (x := Tape_size) (k := 260) (by omega) b_Tape_size.2
              have es := sz_n (c := s) (by omega)
              obtain ⟨rF, eF⟩ := rg_x rfl b_Tape_bytes
              obtain ⟨rMO, eMO⟩ := rg_x rfl b_Rep_mintOf
              obtain ⟨rGR, eGR⟩ := rg_x rfl b_Rep_grainsOf
              refine (c_X11_sheet (o := ob (decA (τ 250))) (s := s) h1.1 (by omega) hs (by omega) (fun i hi => ob_ok (by omega) (eF i (by omega)) (rF i (by omega)))).mono (fun r h' hp => ?_)
              obtain ⟨y, at_, ah, fa, sm, c, fm, fg, mo, gr, le, us, rfl, hc, kQ, hst, rfl⟩ := hp
              have hsm : 0 ≤ sm.toInt ∧ sm.toInt ≤ 48 := by rcases hst with z | z <;> rw [z.1] <;> first | exact b_Rep_stamps | exact nr48 hc
              have hq : shQ (ob (decA (τ 250))) n (decA (τ 204) 0) (decA ((upL (upL (upL τ 255 (encA mo 48)) 256 (encA gr 48)) 204 [some (natOf sm)]) 204) 0) (decA (τ 255)) (decA ((upL (upL (upL τ 255 (encA mo 48)) 256 (encA gr 48)) 204 [some (natOf sm)]) 255)) (decA (τ 256)) (decA ((upL (upL (upL τ 255 (encA mo 48)) 256 (encA gr 48)) 204 [some (natOf sm)]) 256)) := by
                rcases hst with ⟨z1, z2, z3, z4⟩ | ⟨z1, g, z2, z3⟩
                · refine Or.inl ⟨((natOf_ok _).trans z1).trans e_Rep_stamps, fun i hi => ?_, fun i hi => ?_, z4⟩
                  · exact (encA_ok hi).trans (by rw [z2]; exact eMO i hi)
                  · exact (encA_ok hi).trans (by rw [z3]; exact eGR i hi)
                · exact Or.inr ⟨c, g, hc, (natOf_ok _).trans z1, z2, fun i hi => ⟨(encA_ok (Nat.lt_of_lt_of_le hi hc)).trans (z3 i hi).1, (encA_ok (Nat.lt_of_lt_of_le hi hc)).trans (z3 i hi).2⟩⟩
              exact ⟨upL (upL (upL τ 255 (encA mo 48)) 256 (encA gr 48)) 204 [some (natOf sm)], y, hΦ, fun t ht => (upL_ne (ch_s ht rfl rfl rfl).1).trans ((upL_ne (ch_s ht rfl rfl rfl).2.2).trans (upL_ne (ch_s ht rfl rfl rfl).2.1)), rfl, ⟨kQ, hq⟩, ⟨⟨rfl, rfl, rfl, rfl, rfl, rfl, rfl, rfl, rfl, rfl, rfl, rfl, rfl, rfl, rfl, gT_mk rfl e_HS_wasKept b_HS_wasKept, trivial⟩, ⟨rfl, rfl, ⟨0, rfl, by decide, by decide⟩, trivial⟩, ⟨rfl, rfl, b_Tape_bytes⟩, ⟨rfl, rfl, topA_ok _, topA_ok _, topA_ok _, topA_ok _, rfl, rfl, ⟨_, rfl, nr48 hc⟩, trivial⟩, ⟨rfl, rfl, of_rg rg_top⟩, ⟨rfl, rfl, of_rg rg_top⟩, ⟨rfl, rfl, rfl, rfl, rfl, rfl, gT_mk rfl e_Rep_toldMints b_Rep_toldMints, ⟨_, rfl, b_Rep_walls⟩, gT_mk (t := 204) rfl (natOf_ok _).symm hsm, trivial⟩, ⟨rfl, rfl, b_Rep_mintX⟩, ⟨rfl, rfl, b_Rep_mintY⟩, ⟨rfl, rfl, b_Rep_wall⟩, ⟨rfl, rfl, of_x rfl (fun i _ => ⟨i32lo _, i32hi _⟩) (fun i hi => (encA_ok hi).symm)⟩, ⟨rfl, rfl, of_x rfl (fun i _ => ⟨i32lo _, i32hi _⟩) (fun i hi => (encA_ok hi).symm)⟩, ⟨rfl, rfl, rfl, rfl, rfl, gT_mk rfl e_Now_told b_Now_told, ⟨_, rfl, b_Now_walled⟩, ⟨_, rfl, b_Now_day⟩, ⟨_, rfl, b_Now_drawState⟩, trivial⟩, ⟨rfl, rfl, b_Now_place⟩, ⟨rfl, rfl, b_Now_paste⟩, ⟨rfl, rfl, of_rg rg_top⟩, ⟨rfl, rfl, of_rg rg_top⟩, trivial⟩⟩

def HX_sheet40R : List AC := [.inr (11, [.inr (.inr (some (.inl 1))), .inr (.inr (some (.inr 0))), .inr (.inr (some (.inr 1))), .inr (.inr (some (.inr 2))), .inr (.inr (some (.inl 2))), .inr (.inr (some (.inl 3))), .inr (.inr (some (.inr 3))), .inr (.inr (some (.inr 4))), .inr (.inr (some (.inr 205))), .inr (.inr (some (.inl 4))), .inl (40, 260), .inl (0, 240), .inl (0, 240), .inl (-2147483648, 2147483647), .inl (-2147483648, 2147483647), .inl (-2147483648, 2147483647), .inl (0, 260), .inl (0, 260), .inl (0, 16), .inr (.inr (some (.inr 200))), .inr (.inr (some (.inr 5))), .inr (.inr (some (.inr 6))), .inr (.inr (some (.inr 7))), .inr (.inr (some (.inr 8))), .inr (.inr (some (.inr 9))), .inr (.inr (some (.inr 10))), .inr (.inr (some (.inr 11))), .inr (.inr (some (.inr 12))), .inr (.inr (some (.inr 13))), .inr (.inr (some (.inr 14))), .inr (.inr (some (.inr 15))), .inr (.inr (some (.inr 16))), .inr (.inr (some (.inr 17))), .inr (.inr (some (.inl 5))), .inr (.inr (some (.inl 6))), .inr (.inr (some (.inl 7))), .inr (.inr (some (.inl 8))), .inl (-2147483648, 2147483647), .inl (-2147483648, 2147483647), .inl (-2147483648, 2147483647), .inl (-2147483648, 2147483647), .inl (-2147483648, 2147483647), .inl (-2147483648, 2147483647), .inl (-2147483648, 2147483647), .inl (-2147483648, 2147483647), .inl (-2147483648, 2147483647), .inl (-2147483648, 2147483647), .inr (.inr (some (.inr 18))), .inr (.inr (some (.inr 19))), .inr (.inr (some (.inr 20))), .inr (.inr (some (.inr 21))), .inr (.inr (some (.inr 22))), .inr (.inr (some (.inr 201)))]), .inl (600, 130, 0, 383), .inl (1028, 48, 0, 7), .inl (1032, 48, 0, 2), .inl (1005, 260, -128, 127), .inl (0, 48, 0, 23), .inl (0, 2, -2147483648, 2147483647), .inl (0, 2, -2147483648, 2147483647), .inl (0, 2, -2147483648, 2147483647)]
def HY_sheet40R : List AC := hc_3d9ad22d30
set_option maxRecDepth 100000 in
theorem x_sheet40R {l : Launch} {n : Nat} (h1 : 1 ≤ n ∧ n ≤ 40) : conOkX (MetP l 3 yX12_sheet cX12_sheet 4 (some .int) 0 0) [nI n] HX_sheet40R HY_sheet40R (fun t => Nat.beq t 205 || (Nat.beq t 257 || Nat.beq t 258)) (fun _ => True) (fun τ τ' y => shY (ob (fun i => f_and (decA (τ 251) i) 255)) n y ∧ shQ (ob (fun i => f_and (decA (τ 251) i) 255)) n (decA (τ 205) 0) (decA (τ' 205) 0) (decA (τ 257)) (decA (τ' 257)) (decA (τ 258)) (decA (τ' 258)) ∧ (∀ i, i < 48 → 0 ≤ (decA (τ' 257) i).toInt ∧ (decA (τ' 257) i).toInt ≤ 7) ∧ (∀ i, i < 48 → 0 ≤ (decA (τ' 258) i).toInt ∧ (decA (τ' 258) i).toInt ≤ 2)) := by
  intro τ hΦ hP h hh
  have z := all2_cons hh
  clear hh
  obtain ⟨e0, h, rfl, g0, hh⟩ := z
  rcases e0 with ⟨t0, n0, f0⟩ | ⟨ci, fs⟩
  · exact g0.elim
  obtain ⟨rfl, gf⟩ := g0
  have z := all2_cons gf
  clear gf
  obtain ⟨v0, fs, rfl, q0, gf⟩ := z
  cases (q0 : v0 = .inr (some (.inl 1)))
  have z := all2_cons gf
  clear gf
  obtain ⟨v0, fs, rfl, q0, gf⟩ := z
  cases gT_r (τ := τ) (t := 0) (v := v0) rfl q0
  have z := all2_cons gf
  clear gf
  obtain ⟨v0, fs, rfl, q0, gf⟩ := z
  cases gT_r (τ := τ) (t := 1) (v := v0) rfl q0
  have z := all2_cons gf
  clear gf
  obtain ⟨v0, fs, rfl, q0, gf⟩ := z
  cases gT_r (τ := τ) (t := 2) (v := v0) rfl q0
  have z := all2_cons gf
  clear gf
  obtain ⟨v0, fs, rfl, q0, gf⟩ := z
  cases (q0 : v0 = .inr (some (.inl 2)))
  have z := all2_cons gf
  clear gf
  obtain ⟨v0, fs, rfl, q0, gf⟩ := z
  cases (q0 : v0 = .inr (some (.inl 3)))
  have z := all2_cons gf
  clear gf
  obtain ⟨v0, fs, rfl, q0, gf⟩ := z
  cases gT_r (τ := τ) (t := 3) (v := v0) rfl q0
  have z := all2_cons gf
  clear gf
  obtain ⟨v0, fs, rfl, q0, gf⟩ := z
  cases gT_r (τ := τ) (t := 4) (v := v0) rfl q0
  have z := all2_cons gf
  clear gf
  obtain ⟨v0, fs, rfl, q0, gf⟩ := z
  obtain ⟨M_stampMany, rfl, e_M_stampMany, b_M_stampMany⟩ := gT_x (τ := τ) (t := 205) (v := v0) rfl q0
  have z := all2_cons gf
  clear gf
  obtain ⟨v0, fs, rfl, q0, gf⟩ := z
  cases (q0 : v0 = .inr (some (.inl 4)))
  have z := all2_cons gf
  clear gf
  obtain ⟨v0, fs, rfl, q0, gf⟩ := z
  obtain ⟨M_taped, rfl, b_M_taped⟩ := q0
  have z := all2_cons gf
  clear gf
  obtain ⟨v0, fs, rfl, q0, gf⟩ := z
  obtain ⟨M_place0, rfl, b_M_place0⟩ := q0
  have z := all2_cons gf
  clear gf
  obtain ⟨v0, fs, rfl, q0, gf⟩ := z
  obtain ⟨M_length0, rfl, b_M_length0⟩ := q0
  have z := all2_cons gf
  clear gf
  obtain ⟨v0, fs, rfl, q0, gf⟩ := z
  obtain ⟨M_fault, rfl, b_M_fault⟩ := q0
  have z := all2_cons gf
  clear gf
  obtain ⟨v0, fs, rfl, q0, gf⟩ := z
  obtain ⟨M_number0, rfl, b_M_number0⟩ := q0
  have z := all2_cons gf
  clear gf
  obtain ⟨v0, fs, rfl, q0, gf⟩ := z
  obtain ⟨M_open, rfl, b_M_open⟩ := q0
  have z := all2_cons gf
  clear gf
  obtain ⟨v0, fs, rfl, q0, gf⟩ := z
  obtain ⟨M_codeMany, rfl, b_M_codeMany⟩ := q0
  have z := all2_cons gf
  clear gf
  obtain ⟨v0, fs, rfl, q0, gf⟩ := z
  obtain ⟨M_waiting, rfl, b_M_waiting⟩ := q0
  have z := all2_cons gf
  clear gf
  obtain ⟨v0, fs, rfl, q0, gf⟩ := z
  obtain ⟨M_saidMany, rfl, b_M_saidMany⟩ := q0
  have z := all2_cons gf
  clear gf
  obtain ⟨v0, fs, rfl, q0, gf⟩ := z
  obtain ⟨M_clauses, rfl, e_M_clauses, b_M_clauses⟩ := gT_x (τ := τ) (t := 200) (v := v0) rfl q0
  have z := all2_cons gf
  clear gf
  obtain ⟨v0, fs, rfl, q0, gf⟩ := z
  cases gT_r (τ := τ) (t := 5) (v := v0) rfl q0
  have z := all2_cons gf
  clear gf
  obtain ⟨v0, fs, rfl, q0, gf⟩ := z
  cases gT_r (τ := τ) (t := 6) (v := v0) rfl q0
  have z := all2_cons gf
  clear gf
  obtain ⟨v0, fs, rfl, q0, gf⟩ := z
  cases gT_r (τ := τ) (t := 7) (v := v0) rfl q0
  have z := all2_cons gf
  clear gf
  obtain ⟨v0, fs, rfl, q0, gf⟩ := z
  cases gT_r (τ := τ) (t := 8) (v := v0) rfl q0
  have z := all2_cons gf
  clear gf
  obtain ⟨v0, fs, rfl, q0, gf⟩ := z
  cases gT_r (τ := τ) (t := 9) (v := v0) rfl q0
  have z := all2_cons gf
  clear gf
  obtain ⟨v0, fs, rfl, q0, gf⟩ := z
  cases gT_r (τ := τ) (t := 10) (v := v0) rfl q0
  have z := all2_cons gf
  clear gf
  obtain ⟨v0, fs, rfl, q0, gf⟩ := z
  cases gT_r (τ := τ) (t := 11) (v := v0) rfl q0
  have z := all2_cons gf
  clear gf
  obtain ⟨v0, fs, rfl, q0, gf⟩ := z
  cases gT_r (τ := τ) (t := 12) (v := v0) rfl q0
  have z := all2_cons gf
  clear gf
  obtain ⟨v0, fs, rfl, q0, gf⟩ := z
  cases gT_r (τ := τ) (t := 13) (v := v0) rfl q0
  have z := all2_cons gf
  clear gf
  obtain ⟨v0, fs, rfl, q0, gf⟩ := z
  cases gT_r (τ := τ) (t := 14) (v := v0) rfl q0
  have z := all2_cons gf
  clear gf
  obtain ⟨v0, fs, rfl, q0, gf⟩ := z
  cases gT_r (τ := τ) (t := 15) (v := v0) rfl q0
  have z := all2_cons gf
  clear gf
  obtain ⟨v0, fs, rfl, q0, gf⟩ := z
  cases gT_r (τ := τ) (t := 16) (v := v0) rfl q0
  have z := all2_cons gf
  clear gf
  obtain ⟨v0, fs, rfl, q0, gf⟩ := z
  cases gT_r (τ := τ) (t := 17) (v := v0) rfl q0
  have z := all2_cons gf
  clear gf
  obtain ⟨v0, fs, rfl, q0, gf⟩ := z
  cases (q0 : v0 = .inr (some (.inl 5)))
  have z := all2_cons gf
  clear gf
  obtain ⟨v0, fs, rfl, q0, gf⟩ := z
  cases (q0 : v0 = .inr (some (.inl 6)))
  have z := all2_cons gf
  clear gf
  obtain ⟨v0, fs, rfl, q0, gf⟩ := z
  cases (q0 : v0 = .inr (some (.inl 7)))
  have z := all2_cons gf
  clear gf
  obtain ⟨v0, fs, rfl, q0, gf⟩ := z
  cases (q0 : v0 = .inr (some (.inl 8)))
  have z := all2_cons gf
  clear gf
  obtain ⟨v0, fs, rfl, q0, gf⟩ := z
  obtain ⟨M_newMany, rfl, b_M_newMany⟩ := q0
  have z := all2_cons gf
  clear gf
  obtain ⟨v0, fs, rfl, q0, gf⟩ := z
  obtain ⟨M_rounds, rfl, b_M_rounds⟩ := q0
  have z := all2_cons gf
  clear gf
  obtain ⟨v0, fs, rfl, q0, gf⟩ := z
  obtain ⟨M_stampFrom, rfl, b_M_stampFrom⟩ := q0
  have z := all2_cons gf
  clear gf
  obtain ⟨v0, fs, rfl, q0, gf⟩ := z
  obtain ⟨M_stampTimes, rfl, b_M_stampTimes⟩ := q0
  have z := all2_cons gf
  clear gf
  obtain ⟨v0, fs, rfl, q0, gf⟩ := z
  obtain ⟨M_lines, rfl, b_M_lines⟩ := q0
  have z := all2_cons gf
  clear gf
  obtain ⟨v0, fs, rfl, q0, gf⟩ := z
  obtain ⟨M_spot0, rfl, b_M_spot0⟩ := q0
  have z := all2_cons gf
  clear gf
  obtain ⟨v0, fs, rfl, q0, gf⟩ := z
  obtain ⟨M_pullAcross, rfl, b_M_pullAcross⟩ := q0
  have z := all2_cons gf
  clear gf
  obtain ⟨v0, fs, rfl, q0, gf⟩ := z
  obtain ⟨M_pullAlong, rfl, b_M_pullAlong⟩ := q0
  have z := all2_cons gf
  clear gf
  obtain ⟨v0, fs, rfl, q0, gf⟩ := z
  obtain ⟨M_stepsNow, rfl, b_M_stepsNow⟩ := q0
  have z := all2_cons gf
  clear gf
  obtain ⟨v0, fs, rfl, q0, gf⟩ := z
  obtain ⟨M_fallenNow, rfl, b_M_fallenNow⟩ := q0
  have z := all2_cons gf
  clear gf
  obtain ⟨v0, fs, rfl, q0, gf⟩ := z
  cases gT_r (τ := τ) (t := 18) (v := v0) rfl q0
  have z := all2_cons gf
  clear gf
  obtain ⟨v0, fs, rfl, q0, gf⟩ := z
  cases gT_r (τ := τ) (t := 19) (v := v0) rfl q0
  have z := all2_cons gf
  clear gf
  obtain ⟨v0, fs, rfl, q0, gf⟩ := z
  cases gT_r (τ := τ) (t := 20) (v := v0) rfl q0
  have z := all2_cons gf
  clear gf
  obtain ⟨v0, fs, rfl, q0, gf⟩ := z
  cases gT_r (τ := τ) (t := 21) (v := v0) rfl q0
  have z := all2_cons gf
  clear gf
  obtain ⟨v0, fs, rfl, q0, gf⟩ := z
  cases gT_r (τ := τ) (t := 22) (v := v0) rfl q0
  have z := all2_cons gf
  clear gf
  obtain ⟨v0, fs, rfl, q0, gf⟩ := z
  obtain ⟨M_isKept, rfl, e_M_isKept, b_M_isKept⟩ := gT_x (τ := τ) (t := 201) (v := v0) rfl q0
  cases fs with
  | cons _ _ => exact gf.elim
  | nil =>
    have z := all2_cons hh
    clear hh
    obtain ⟨e1, h, rfl, g1, hh⟩ := z
    rcases e1 with ⟨t1, n1, M_now⟩ | ⟨ci, fs⟩
    rotate_left
    · exact g1.elim
    obtain ⟨et, en, b_M_now⟩ := g1
    cases (et : t1 = 0)
    cases en
    have z := all2_cons hh
    clear hh
    obtain ⟨e1, h, rfl, g1, hh⟩ := z
    rcases e1 with ⟨t1, n1, M_mintOf⟩ | ⟨ci, fs⟩
    rotate_left
    · exact g1.elim
    obtain ⟨et, en, b_M_mintOf⟩ := g1
    cases (et : t1 = 0)
    cases en
    have z := all2_cons hh
    clear hh
    obtain ⟨e1, h, rfl, g1, hh⟩ := z
    rcases e1 with ⟨t1, n1, M_wholeOf⟩ | ⟨ci, fs⟩
    rotate_left
    · exact g1.elim
    obtain ⟨et, en, b_M_wholeOf⟩ := g1
    cases (et : t1 = 0)
    cases en
    have z := all2_cons hh
    clear hh
    obtain ⟨e1, h, rfl, g1, hh⟩ := z
    rcases e1 with ⟨t1, n1, M_tape⟩ | ⟨ci, fs⟩
    rotate_left
    · exact g1.elim
    obtain ⟨et, en, b_M_tape⟩ := g1
    cases (et : t1 = 1)
    cases en
    have z := all2_cons hh
    clear hh
    obtain ⟨e1, h, rfl, g1, hh⟩ := z
    rcases e1 with ⟨t1, n1, M_newStamps⟩ | ⟨ci, fs⟩
    rotate_left
    · exact g1.elim
    obtain ⟨et, en, b_M_newStamps⟩ := g1
    cases (et : t1 = 0)
    cases en
    have z := all2_cons hh
    clear hh
    obtain ⟨e1, h, rfl, g1, hh⟩ := z
    rcases e1 with ⟨t1, n1, M_roundFrom⟩ | ⟨ci, fs⟩
    rotate_left
    · exact g1.elim
    obtain ⟨et, en, b_M_roundFrom⟩ := g1
    cases (et : t1 = 0)
    cases en
    have z := all2_cons hh
    clear hh
    obtain ⟨e1, h, rfl, g1, hh⟩ := z
    rcases e1 with ⟨t1, n1, M_roundAt⟩ | ⟨ci, fs⟩
    rotate_left
    · exact g1.elim
    obtain ⟨et, en, b_M_roundAt⟩ := g1
    cases (et : t1 = 0)
    cases en
    have z := all2_cons hh
    clear hh
    obtain ⟨e1, h, rfl, g1, hh⟩ := z
    rcases e1 with ⟨t1, n1, M_roundTimes⟩ | ⟨ci, fs⟩
    rotate_left
    · exact g1.elim
    obtain ⟨et, en, b_M_roundTimes⟩ := g1
    cases (et : t1 = 0)
    cases en
    cases h with
    | cons _ _ => exact hh.elim
    | nil =>
      obtain ⟨s, hs, rfl⟩ := rng_n (x := M_taped) (k := 260) (by omega) b_M_taped.2
      have es := sz_n (c := s) (by omega)
      obtain ⟨rF, eF⟩ := rg_x rfl b_M_tape
      obtain ⟨rMO, eMO⟩ := rg_x rfl b_M_mintOf
      obtain ⟨rGR, eGR⟩ := rg_x rfl b_M_wholeOf
      refine (x_X12_sheet (b := ob (fun i => f_and (decA (τ 251) i) 255)) (s := s) h1.1 (by omega) hs (by omega) (fun i hi => ob_ok (f := fun i => f_and (decA (τ 251) i) 255) (F := fun i => f_and (M_tape i) 255) (by omega) (by show f_and (M_tape i) 255 = f_and (decA (τ 251) i) 255; rw [eF i (by omega)]) oct_rng) (seg6_of (t := 600) rfl rfl b_M_now) rMO rGR (rg_of b_M_newStamps) b_M_stampMany).mono (fun r h' hp => ?_)
      obtain ⟨y, nw, mo, gr, ns, rf, ra, rt, sm, pp, f, nm, rd, sf, st, rfl, kQ, hst, k1, k2, k3, k4, k5, k6, rfl⟩ := hp
      have hq : shQ (ob (fun i => f_and (decA (τ 251) i) 255)) n (decA (τ 205) 0) (decA ((upL (upL (upL τ 257 (encA mo 48)) 258 (encA gr 48)) 205 [some (natOf sm)]) 205) 0) (decA (τ 257)) (decA ((upL (upL (upL τ 257 (encA mo 48)) 258 (encA gr 48)) 205 [some (natOf sm)]) 257)) (decA (τ 258)) (decA ((upL (upL (upL τ 257 (encA mo 48)) 258 (encA gr 48)) 205 [some (natOf sm)]) 258)) := by
        rcases hst with ⟨z1, z2, z3, z4⟩ | ⟨c, g, hc, z1, z2, z3⟩
        · refine Or.inl ⟨((natOf_ok _).trans z1).trans e_M_stampMany, fun i hi => ?_, fun i hi => ?_, z4⟩
          · exact (encA_ok hi).trans (by rw [z2]; exact eMO i hi)
          · exact (encA_ok hi).trans (by rw [z3]; exact eGR i hi)
        · exact Or.inr ⟨c, g, hc, (natOf_ok _).trans z1, z2, fun i hi => ⟨(encA_ok (Nat.lt_of_lt_of_le hi hc)).trans (z3 i hi).1, (encA_ok (Nat.lt_of_lt_of_le hi hc)).trans (z3 i hi).2⟩⟩
      exact ⟨upL (upL (upL τ 257 (encA mo 48)) 258 (encA gr 48)) 205 [some (natOf sm)], y, hΦ, fun t ht => (upL_ne (ch_s ht rfl rfl rfl).1).trans ((upL_ne (ch_s ht rfl rfl rfl).2.2).trans (upL_ne (ch_s ht rfl rfl rfl).2.1)), rfl, ⟨kQ, hq, fun i hi => by show 0 ≤ (decA (encA mo 48) i).toInt ∧ (decA (encA mo 48) i).toInt ≤ 7; rw [encA_ok hi]; exact k2 i hi, fun i hi => by show 0 ≤ (decA (encA gr 48) i).toInt ∧ (decA (encA gr 48) i).toInt ≤ 2; rw [encA_ok hi]; exact k3 i hi⟩, ⟨⟨rfl, rfl, rfl, rfl, rfl, rfl, rfl, rfl, rfl, gT_mk (t := 205) rfl (natOf_ok _).symm k5, rfl, ⟨0, rfl, by decide, by decide⟩, ⟨_, rfl, k6⟩, ⟨_, rfl, nr240 (by omega)⟩, topA_ok _, ⟨_, rfl, b_M_number0⟩, ⟨_, rfl, b_M_open⟩, ⟨0, rfl, by decide, by decide⟩, ⟨_, rfl, b_M_waiting⟩, ⟨0, rfl, by decide, by decide⟩, gT_mk rfl e_M_clauses b_M_clauses, rfl, rfl, rfl, rfl, rfl, rfl, rfl, rfl, rfl, rfl, rfl, rfl, rfl, rfl, rfl, rfl, rfl, topA_ok _, topA_ok _, topA_ok _, topA_ok _, ⟨_, rfl, b_M_lines⟩, ⟨_, rfl, b_M_spot0⟩, ⟨_, rfl, b_M_pullAcross⟩, ⟨_, rfl, b_M_pullAlong⟩, ⟨_, rfl, b_M_stepsNow⟩, ⟨_, rfl, b_M_fallenNow⟩, rfl, rfl, rfl, rfl, rfl, gT_mk rfl e_M_isKept b_M_isKept, trivial⟩, ⟨rfl, rfl, of_seg6 k1⟩, ⟨rfl, rfl, of_x rfl k2 (fun i hi => (encA_ok hi).symm)⟩, ⟨rfl, rfl, of_x rfl k3 (fun i hi => (encA_ok hi).symm)⟩, ⟨rfl, rfl, b_M_tape⟩, ⟨rfl, rfl, of_rg k4⟩, ⟨rfl, rfl, of_rg rg_top⟩, ⟨rfl, rfl, of_rg rg_top⟩, ⟨rfl, rfl, of_rg rg_top⟩, trivial⟩⟩

def HX_sheet60C : List AC := [.inr (10, [.inr (.inr (some (.inl 1))), .inr (.inr (some (.inl 6))), .inr (.inr (some (.inl 12))), .inr (.inr (some (.inr 0))), .inr (.inr (some (.inr 1))), .inr (.inr (some (.inr 2))), .inr (.inr (some (.inr 3))), .inr (.inr (some (.inr 4))), .inr (.inr (some (.inl 3))), .inr (.inr (some (.inr 5))), .inr (.inr (some (.inr 6))), .inr (.inr (some (.inr 7))), .inr (.inr (some (.inr 8))), .inr (.inr (some (.inr 9))), .inr (.inr (some (.inr 201)))]), .inr (9, [.inr (.inr (some (.inl 2))), .inl (60, 260)]), .inl (1000, 260, 0, 255), .inr (8, [.inr (.inr (some (.inl 2))), .inl (-2147483648, 2147483647), .inl (-2147483648, 2147483647), .inl (-2147483648, 2147483647), .inl (-2147483648, 2147483647), .inr (.inr (some (.inl 4))), .inr (.inr (some (.inl 5))), .inl (0, 48)]), .inl (0, 48, -2147483648, 2147483647), .inl (0, 48, -2147483648, 2147483647), .inr (6, [.inr (.inr (some (.inl 7))), .inr (.inr (some (.inl 8))), .inr (.inr (some (.inl 9))), .inr (.inr (some (.inl 10))), .inr (.inr (some (.inl 11))), .inr (.inr (some (.inr 203))), .inl (-2147483648, 2147483647), .inr (.inr (some (.inr 204)))]), .inl (1008, 8, -2147483648, 2147483647), .inl (1012, 8, -2147483648, 2147483647), .inl (1054, 384, 0, 1), .inl (1020, 48, -2147483648, 2147483647), .inl (1024, 48, -2147483648, 2147483647), .inr (4, [.inr (.inr (some (.inl 13))), .inr (.inr (some (.inl 14))), .inr (.inr (some (.inl 15))), .inr (.inr (some (.inl 16))), .inr (.inr (some (.inr 206))), .inl (-2147483648, 2147483647), .inl (-2147483648, 2147483647), .inl (-2147483648, 2147483647)]), .inl (0, 8, -2147483648, 2147483647), .inl (0, 8, -2147483648, 2147483647), .inl (0, 48, -2147483648, 2147483647), .inl (0, 48, -2147483648, 2147483647)]
def HY_sheet60C : List AC := hc_ef9b4feb14
set_option maxRecDepth 100000 in
theorem x_sheet60C {l : Launch} {n : Nat} (h1 : 1 ≤ n ∧ n ≤ 60) : conOkX (MetP l 102 yX11_sheet cX11_sheet 3 (some .int) 0 0) [nI n] HX_sheet60C HY_sheet60C (fun t => Nat.beq t 204 || (Nat.beq t 255 || Nat.beq t 256)) (fun _ => True) (fun τ τ' y => shY (ob (decA (τ 250))) n y ∧ shQ (ob (decA (τ 250))) n (decA (τ 204) 0) (decA (τ' 204) 0) (decA (τ 255)) (decA (τ' 255)) (decA (τ 256)) (decA (τ' 256))) := by
  intro τ hΦ hP h hh
  have z := all2_cons hh
  clear hh
  obtain ⟨e0, h, rfl, g0, hh⟩ := z
  rcases e0 with ⟨t0, n0, f0⟩ | ⟨ci, fs⟩
  · exact g0.elim
  obtain ⟨rfl, gf⟩ := g0
  have z := all2_cons gf
  clear gf
  obtain ⟨v0, fs, rfl, q0, gf⟩ := z
  cases (q0 : v0 = .inr (some (.inl 1)))
  have z := all2_cons gf
  clear gf
  obtain ⟨v0, fs, rfl, q0, gf⟩ := z
  cases (q0 : v0 = .inr (some (.inl 6)))
  have z := all2_cons gf
  clear gf
  obtain ⟨v0, fs, rfl, q0, gf⟩ := z
  cases (q0 : v0 = .inr (some (.inl 12)))
  have z := all2_cons gf
  clear gf
  obtain ⟨v0, fs, rfl, q0, gf⟩ := z
  cases gT_r (τ := τ) (t := 0) (v := v0) rfl q0
  have z := all2_cons gf
  clear gf
  obtain ⟨v0, fs, rfl, q0, gf⟩ := z
  cases gT_r (τ := τ) (t := 1) (v := v0) rfl q0
  have z := all2_cons gf
  clear gf
  obtain ⟨v0, fs, rfl, q0, gf⟩ := z
  cases gT_r (τ := τ) (t := 2) (v := v0) rfl q0
  have z := all2_cons gf
  clear gf
  obtain ⟨v0, fs, rfl, q0, gf⟩ := z
  cases gT_r (τ := τ) (t := 3) (v := v0) rfl q0
  have z := all2_cons gf
  clear gf
  obtain ⟨v0, fs, rfl, q0, gf⟩ := z
  cases gT_r (τ := τ) (t := 4) (v := v0) rfl q0
  have z := all2_cons gf
  clear gf
  obtain ⟨v0, fs, rfl, q0, gf⟩ := z
  cases (q0 : v0 = .inr (some (.inl 3)))
  have z := all2_cons gf
  clear gf
  obtain ⟨v0, fs, rfl, q0, gf⟩ := z
  cases gT_r (τ := τ) (t := 5) (v := v0) rfl q0
  have z := all2_cons gf
  clear gf
  obtain ⟨v0, fs, rfl, q0, gf⟩ := z
  cases gT_r (τ := τ) (t := 6) (v := v0) rfl q0
  have z := all2_cons gf
  clear gf
  obtain ⟨v0, fs, rfl, q0, gf⟩ := z
  cases gT_r (τ := τ) (t := 7) (v := v0) rfl q0
  have z := all2_cons gf
  clear gf
  obtain ⟨v0, fs, rfl, q0, gf⟩ := z
  cases gT_r (τ := τ) (t := 8) (v := v0) rfl q0
  have z := all2_cons gf
  clear gf
  obtain ⟨v0, fs, rfl, q0, gf⟩ := z
  cases gT_r (τ := τ) (t := 9) (v := v0) rfl q0
  have z := all2_cons gf
  clear gf
  obtain ⟨v0, fs, rfl, q0, gf⟩ := z
  obtain ⟨HS_wasKept, rfl, e_HS_wasKept, b_HS_wasKept⟩ := gT_x (τ := τ) (t := 201) (v := v0) rfl q0
  cases fs with
  | cons _ _ => exact gf.elim
  | nil =>
    have z := all2_cons hh
    clear hh
    obtain ⟨e0, h, rfl, g0, hh⟩ := z
    rcases e0 with ⟨t0, n0, f0⟩ | ⟨ci, fs⟩
    · exact g0.elim
    obtain ⟨rfl, gf⟩ := g0
    have z := all2_cons gf
    clear gf
    obtain ⟨v0, fs, rfl, q0, gf⟩ := z
    cases (q0 : v0 = .inr (some (.inl 2)))
    have z := all2_cons gf
    clear gf
    obtain ⟨v0, fs, rfl, q0, gf⟩ := z
    obtain ⟨Tape_size, rfl, b_Tape_size⟩ := q0
    cases fs with
    | cons _ _ => exact gf.elim
    | nil =>
      have z := all2_cons hh
      clear hh
      obtain ⟨e1, h, rfl, g1, hh⟩ := z
      rcases e1 with ⟨t1, n1, Tape_bytes⟩ | ⟨ci, fs⟩
      rotate_left
      · exact g1.elim
      obtain ⟨et, en, b_Tape_bytes⟩ := g1
      cases (et : t1 = 0)
      cases en
      have z := all2_cons hh
      clear hh
      obtain ⟨e0, h, rfl, g0, hh⟩ := z
      rcases e0 with ⟨t0, n0, f0⟩ | ⟨ci, fs⟩
      · exact g0.elim
      obtain ⟨rfl, gf⟩ := g0
      have z := all2_cons gf
      clear gf
      obtain ⟨v0, fs, rfl, q0, gf⟩ := z
      cases (q0 : v0 = .inr (some (.inl 2)))
      have z := all2_cons gf
      clear gf
      obtain ⟨v0, fs, rfl, q0, gf⟩ := z
      obtain ⟨SR_end, rfl, b_SR_end⟩ := q0
      have z := all2_cons gf
      clear gf
      obtain ⟨v0, fs, rfl, q0, gf⟩ := z
      obtain ⟨SR_at, rfl, b_SR_at⟩ := q0
      have z := all2_cons gf
      clear gf
      obtain ⟨v0, fs, rfl, q0, gf⟩ := z
      obtain ⟨SR_ahead, rfl, b_SR_ahead⟩ := q0
      have z := all2_cons gf
      clear gf
      obtain ⟨v0, fs, rfl, q0, gf⟩ := z
      obtain ⟨SR_fault, rfl, b_SR_fault⟩ := q0
      have z := all2_cons gf
      clear gf
      obtain ⟨v0, fs, rfl, q0, gf⟩ := z
      cases (q0 : v0 = .inr (some (.inl 4)))
      have z := all2_cons gf
      clear gf
      obtain ⟨v0, fs, rfl, q0, gf⟩ := z
      cases (q0 : v0 = .inr (some (.inl 5)))
      have z := all2_cons gf
      clear gf
      obtain ⟨v0, fs, rfl, q0, gf⟩ := z
      obtain ⟨SR_size, rfl, b_SR_size⟩ := q0
      cases fs with
      | cons _ _ => exact gf.elim
      | nil =>
        have z := all2_cons hh
        clear hh
        obtain ⟨e1, h, rfl, g1, hh⟩ := z
        rcases e1 with ⟨t1, n1, SR_mint⟩ | ⟨ci, fs⟩
        rotate_left
        · exact g1.elim
        obtain ⟨et, en, b_SR_mint⟩ := g1
        cases (et : t1 = 0)
        cases en
        have z := all2_cons hh
        clear hh
        obtain ⟨e1, h, rfl, g1, hh⟩ := z
        rcases e1 with ⟨t1, n1, SR_grains⟩ | ⟨ci, fs⟩
        rotate_left
        · exact g1.elim
        obtain ⟨et, en, b_SR_grains⟩ := g1
        cases (et : t1 = 0)
        cases en
        have z := all2_cons hh
        clear hh
        obtain ⟨e0, h, rfl, g0, hh⟩ := z
        rcases e0 with ⟨t0, n0, f0⟩ | ⟨ci, fs⟩
        · exact g0.elim
        obtain ⟨rfl, gf⟩ := g0
        have z := all2_cons gf
        clear gf
        obtain ⟨v0, fs, rfl, q0, gf⟩ := z
        cases (q0 : v0 = .inr (some (.inl 7)))
        have z := all2_cons gf
        clear gf
        obtain ⟨v0, fs, rfl, q0, gf⟩ := z
        cases (q0 : v0 = .inr (some (.inl 8)))
        have z := all2_cons gf
        clear gf
        obtain ⟨v0, fs, rfl, q0, gf⟩ := z
        cases (q0 : v0 = .inr (some (.inl 9)))
        have z := all2_cons gf
        clear gf
        obtain ⟨v0, fs, rfl, q0, gf⟩ := z
        cases (q0 : v0 = .inr (some (.inl 10)))
        have z := all2_cons gf
        clear gf
        obtain ⟨v0, fs, rfl, q0, gf⟩ := z
        cases (q0 : v0 = .inr (some (.inl 11)))
        have z := all2_cons gf
        clear gf
        obtain ⟨v0, fs, rfl, q0, gf⟩ := z
        obtain ⟨Rep_toldMints, rfl, e_Rep_toldMints, b_Rep_toldMints⟩ := gT_x (τ := τ) (t := 203) (v := v0) rfl q0
        have z := all2_cons gf
        clear gf
        obtain ⟨v0, fs, rfl, q0, gf⟩ := z
        obtain ⟨Rep_walls, rfl, b_Rep_walls⟩ := q0
        have z := all2_cons gf
        clear gf
        obtain ⟨v0, fs, rfl, q0, gf⟩ := z
        obtain ⟨Rep_stamps, rfl, e_Rep_stamps, b_Rep_stamps⟩ := gT_x (τ := τ) (t := 204) (v := v0) rfl q0
        cases fs with
        | cons _ _ => exact gf.elim
        | nil =>
          have z := all2_cons hh
          clear hh
          obtain ⟨e1, h, rfl, g1, hh⟩ := z
          rcases e1 with ⟨t1, n1, Rep_mintX⟩ | ⟨ci, fs⟩
          rotate_left
          · exact g1.elim
          obtain ⟨et, en, b_Rep_mintX⟩ := g1
          cases (et : t1 = 0)
          cases en
          have z := all2_cons hh
          clear hh
          obtain ⟨e1, h, rfl, g1, hh⟩ := z
          rcases e1 with ⟨t1, n1, Rep_mintY⟩ | ⟨ci, fs⟩
          rotate_left
          · exact g1.elim
          obtain ⟨et, en, b_Rep_mintY⟩ := g1
          cases (et : t1 = 0)
          cases en
          have z := all2_cons hh
          clear hh
          obtain ⟨e1, h, rfl, g1, hh⟩ := z
          rcases e1 with ⟨t1, n1, Rep_wall⟩ | ⟨ci, fs⟩
          rotate_left
          · exact g1.elim
          obtain ⟨et, en, b_Rep_wall⟩ := g1
          cases (et : t1 = 2)
          cases en
          have z := all2_cons hh
          clear hh
          obtain ⟨e1, h, rfl, g1, hh⟩ := z
          rcases e1 with ⟨t1, n1, Rep_mintOf⟩ | ⟨ci, fs⟩
          rotate_left
          · exact g1.elim
          obtain ⟨et, en, b_Rep_mintOf⟩ := g1
          cases (et : t1 = 0)
          cases en
          have z := all2_cons hh
          clear hh
          obtain ⟨e1, h, rfl, g1, hh⟩ := z
          rcases e1 with ⟨t1, n1, Rep_grainsOf⟩ | ⟨ci, fs⟩
          rotate_left
          · exact g1.elim
          obtain ⟨et, en, b_Rep_grainsOf⟩ := g1
          cases (et : t1 = 0)
          cases en
          have z := all2_cons hh
          clear hh
          obtain ⟨e0, h, rfl, g0, hh⟩ := z
          rcases e0 with ⟨t0, n0, f0⟩ | ⟨ci, fs⟩
          · exact g0.elim
          obtain ⟨rfl, gf⟩ := g0
          have z := all2_cons gf
          clear gf
          obtain ⟨v0, fs, rfl, q0, gf⟩ := z
          cases (q0 : v0 = .inr (some (.inl 13)))
          have z := all2_cons gf
          clear gf
          obtain ⟨v0, fs, rfl, q0, gf⟩ := z
          cases (q0 : v0 = .inr (some (.inl 14)))
          have z := all2_cons gf
          clear gf
          obtain ⟨v0, fs, rfl, q0, gf⟩ := z
          cases (q0 : v0 = .inr (some (.inl 15)))
          have z := all2_cons gf
          clear gf
          obtain ⟨v0, fs, rfl, q0, gf⟩ := z
          cases (q0 : v0 = .inr (some (.inl 16)))
          have z := all2_cons gf
          clear gf
          obtain ⟨v0, fs, rfl, q0, gf⟩ := z
          obtain ⟨Now_told, rfl, e_Now_told, b_Now_told⟩ := gT_x (τ := τ) (t := 206) (v := v0) rfl q0
          have z := all2_cons gf
          clear gf
          obtain ⟨v0, fs, rfl, q0, gf⟩ := z
          obtain ⟨Now_walled, rfl, b_Now_walled⟩ := q0
          have z := all2_cons gf
          clear gf
          obtain ⟨v0, fs, rfl, q0, gf⟩ := z
          obtain ⟨Now_day, rfl, b_Now_day⟩ := q0
          have z := all2_cons gf
          clear gf
          obtain ⟨v0, fs, rfl, q0, gf⟩ := z
          obtain ⟨Now_drawState, rfl, b_Now_drawState⟩ := q0
          cases fs with
          | cons _ _ => exact gf.elim
          | nil =>
            have z := all2_cons hh
            clear hh
            obtain ⟨e1, h, rfl, g1, hh⟩ := z
            rcases e1 with ⟨t1, n1, Now_place⟩ | ⟨ci, fs⟩
            rotate_left
            · exact g1.elim
            obtain ⟨et, en, b_Now_place⟩ := g1
            cases (et : t1 = 0)
            cases en
            have z := all2_cons hh
            clear hh
            obtain ⟨e1, h, rfl, g1, hh⟩ := z
            rcases e1 with ⟨t1, n1, Now_paste⟩ | ⟨ci, fs⟩
            rotate_left
            · exact g1.elim
            obtain ⟨et, en, b_Now_paste⟩ := g1
            cases (et : t1 = 0)
            cases en
            have z := all2_cons hh
            clear hh
            obtain ⟨e1, h, rfl, g1, hh⟩ := z
            rcases e1 with ⟨t1, n1, Now_letter⟩ | ⟨ci, fs⟩
            rotate_left
            · exact g1.elim
            obtain ⟨et, en, b_Now_letter⟩ := g1
            cases (et : t1 = 0)
            cases en
            have z := all2_cons hh
            clear hh
            obtain ⟨e1, h, rfl, g1, hh⟩ := z
            rcases e1 with ⟨t1, n1, Now_used⟩ | ⟨ci, fs⟩
            rotate_left
            · exact g1.elim
            obtain ⟨et, en, b_Now_used⟩ := g1
            cases (et : t1 = 0)
            cases en
            cases h with
            | cons _ _ => exact hh.elim
            | nil =>
              obtain ⟨s, hs, rfl⟩ := rng_n (x := Tape_size) (k := 260) (by omega) b_Tape_size.2
              have es := sz_n (c := s) (by omega)
              obtain ⟨rF, eF⟩ := rg_x rfl b_Tape_bytes
              obtain ⟨rMO, eMO⟩ := rg_x rfl b_Rep_mintOf
              obtain ⟨rGR, eGR⟩ := rg_x rfl b_Rep_grainsOf
              refine (c_X11_sheet (o := ob (decA (τ 250))) (s := s) h1.1 (by omega) hs (by omega) (fun i hi => ob_ok (by omega) (eF i (by omega)) (rF i (by omega)))).mono (fun r h' hp => ?_)
              obtain ⟨y, at_, ah, fa, sm, c, fm, fg, mo, gr, le, us, rfl, hc, kQ, hst, rfl⟩ := hp
              have hsm : 0 ≤ sm.toInt ∧ sm.toInt ≤ 48 := by rcases hst with z | z <;> rw [z.1] <;> first | exact b_Rep_stamps | exact nr48 hc
              have hq : shQ (ob (decA (τ 250))) n (decA (τ 204) 0) (decA ((upL (upL (upL τ 255 (encA mo 48)) 256 (encA gr 48)) 204 [some (natOf sm)]) 204) 0) (decA (τ 255)) (decA ((upL (upL (upL τ 255 (encA mo 48)) 256 (encA gr 48)) 204 [some (natOf sm)]) 255)) (decA (τ 256)) (decA ((upL (upL (upL τ 255 (encA mo 48)) 256 (encA gr 48)) 204 [some (natOf sm)]) 256)) := by
                rcases hst with ⟨z1, z2, z3, z4⟩ | ⟨z1, g, z2, z3⟩
                · refine Or.inl ⟨((natOf_ok _).trans z1).trans e_Rep_stamps, fun i hi => ?_, fun i hi => ?_, z4⟩
                  · exact (encA_ok hi).trans (by rw [z2]; exact eMO i hi)
                  · exact (encA_ok hi).trans (by rw [z3]; exact eGR i hi)
                · exact Or.inr ⟨c, g, hc, (natOf_ok _).trans z1, z2, fun i hi => ⟨(encA_ok (Nat.lt_of_lt_of_le hi hc)).trans (z3 i hi).1, (encA_ok (Nat.lt_of_lt_of_le hi hc)).trans (z3 i hi).2⟩⟩
              exact ⟨upL (upL (upL τ 255 (encA mo 48)) 256 (encA gr 48)) 204 [some (natOf sm)], y, hΦ, fun t ht => (upL_ne (ch_s ht rfl rfl rfl).1).trans ((upL_ne (ch_s ht rfl rfl rfl).2.2).trans (upL_ne (ch_s ht rfl rfl rfl).2.1)), rfl, ⟨kQ, hq⟩, ⟨⟨rfl, rfl, rfl, rfl, rfl, rfl, rfl, rfl, rfl, rfl, rfl, rfl, rfl, rfl, rfl, gT_mk rfl e_HS_wasKept b_HS_wasKept, trivial⟩, ⟨rfl, rfl, ⟨0, rfl, by decide, by decide⟩, trivial⟩, ⟨rfl, rfl, b_Tape_bytes⟩, ⟨rfl, rfl, topA_ok _, topA_ok _, topA_ok _, topA_ok _, rfl, rfl, ⟨_, rfl, nr48 hc⟩, trivial⟩, ⟨rfl, rfl, of_rg rg_top⟩, ⟨rfl, rfl, of_rg rg_top⟩, ⟨rfl, rfl, rfl, rfl, rfl, rfl, gT_mk rfl e_Rep_toldMints b_Rep_toldMints, ⟨_, rfl, b_Rep_walls⟩, gT_mk (t := 204) rfl (natOf_ok _).symm hsm, trivial⟩, ⟨rfl, rfl, b_Rep_mintX⟩, ⟨rfl, rfl, b_Rep_mintY⟩, ⟨rfl, rfl, b_Rep_wall⟩, ⟨rfl, rfl, of_x rfl (fun i _ => ⟨i32lo _, i32hi _⟩) (fun i hi => (encA_ok hi).symm)⟩, ⟨rfl, rfl, of_x rfl (fun i _ => ⟨i32lo _, i32hi _⟩) (fun i hi => (encA_ok hi).symm)⟩, ⟨rfl, rfl, rfl, rfl, rfl, gT_mk rfl e_Now_told b_Now_told, ⟨_, rfl, b_Now_walled⟩, ⟨_, rfl, b_Now_day⟩, ⟨_, rfl, b_Now_drawState⟩, trivial⟩, ⟨rfl, rfl, b_Now_place⟩, ⟨rfl, rfl, b_Now_paste⟩, ⟨rfl, rfl, of_rg rg_top⟩, ⟨rfl, rfl, of_rg rg_top⟩, trivial⟩⟩

def HX_sheet60R : List AC := [.inr (11, [.inr (.inr (some (.inl 1))), .inr (.inr (some (.inr 0))), .inr (.inr (some (.inr 1))), .inr (.inr (some (.inr 2))), .inr (.inr (some (.inl 2))), .inr (.inr (some (.inl 3))), .inr (.inr (some (.inr 3))), .inr (.inr (some (.inr 4))), .inr (.inr (some (.inr 205))), .inr (.inr (some (.inl 4))), .inl (60, 260), .inl (0, 240), .inl (0, 240), .inl (-2147483648, 2147483647), .inl (-2147483648, 2147483647), .inl (-2147483648, 2147483647), .inl (0, 260), .inl (0, 260), .inl (0, 16), .inr (.inr (some (.inr 200))), .inr (.inr (some (.inr 5))), .inr (.inr (some (.inr 6))), .inr (.inr (some (.inr 7))), .inr (.inr (some (.inr 8))), .inr (.inr (some (.inr 9))), .inr (.inr (some (.inr 10))), .inr (.inr (some (.inr 11))), .inr (.inr (some (.inr 12))), .inr (.inr (some (.inr 13))), .inr (.inr (some (.inr 14))), .inr (.inr (some (.inr 15))), .inr (.inr (some (.inr 16))), .inr (.inr (some (.inr 17))), .inr (.inr (some (.inl 5))), .inr (.inr (some (.inl 6))), .inr (.inr (some (.inl 7))), .inr (.inr (some (.inl 8))), .inl (-2147483648, 2147483647), .inl (-2147483648, 2147483647), .inl (-2147483648, 2147483647), .inl (-2147483648, 2147483647), .inl (-2147483648, 2147483647), .inl (-2147483648, 2147483647), .inl (-2147483648, 2147483647), .inl (-2147483648, 2147483647), .inl (-2147483648, 2147483647), .inl (-2147483648, 2147483647), .inr (.inr (some (.inr 18))), .inr (.inr (some (.inr 19))), .inr (.inr (some (.inr 20))), .inr (.inr (some (.inr 21))), .inr (.inr (some (.inr 22))), .inr (.inr (some (.inr 201)))]), .inl (600, 130, 0, 383), .inl (1028, 48, 0, 7), .inl (1032, 48, 0, 2), .inl (1005, 260, -128, 127), .inl (0, 48, 0, 23), .inl (0, 2, -2147483648, 2147483647), .inl (0, 2, -2147483648, 2147483647), .inl (0, 2, -2147483648, 2147483647)]
def HY_sheet60R : List AC := hc_3d9ad22d30
set_option maxRecDepth 100000 in
theorem x_sheet60R {l : Launch} {n : Nat} (h1 : 1 ≤ n ∧ n ≤ 60) : conOkX (MetP l 3 yX12_sheet cX12_sheet 4 (some .int) 0 0) [nI n] HX_sheet60R HY_sheet60R (fun t => Nat.beq t 205 || (Nat.beq t 257 || Nat.beq t 258)) (fun _ => True) (fun τ τ' y => shY (ob (fun i => f_and (decA (τ 251) i) 255)) n y ∧ shQ (ob (fun i => f_and (decA (τ 251) i) 255)) n (decA (τ 205) 0) (decA (τ' 205) 0) (decA (τ 257)) (decA (τ' 257)) (decA (τ 258)) (decA (τ' 258)) ∧ (∀ i, i < 48 → 0 ≤ (decA (τ' 257) i).toInt ∧ (decA (τ' 257) i).toInt ≤ 7) ∧ (∀ i, i < 48 → 0 ≤ (decA (τ' 258) i).toInt ∧ (decA (τ' 258) i).toInt ≤ 2)) := by
  intro τ hΦ hP h hh
  have z := all2_cons hh
  clear hh
  obtain ⟨e0, h, rfl, g0, hh⟩ := z
  rcases e0 with ⟨t0, n0, f0⟩ | ⟨ci, fs⟩
  · exact g0.elim
  obtain ⟨rfl, gf⟩ := g0
  have z := all2_cons gf
  clear gf
  obtain ⟨v0, fs, rfl, q0, gf⟩ := z
  cases (q0 : v0 = .inr (some (.inl 1)))
  have z := all2_cons gf
  clear gf
  obtain ⟨v0, fs, rfl, q0, gf⟩ := z
  cases gT_r (τ := τ) (t := 0) (v := v0) rfl q0
  have z := all2_cons gf
  clear gf
  obtain ⟨v0, fs, rfl, q0, gf⟩ := z
  cases gT_r (τ := τ) (t := 1) (v := v0) rfl q0
  have z := all2_cons gf
  clear gf
  obtain ⟨v0, fs, rfl, q0, gf⟩ := z
  cases gT_r (τ := τ) (t := 2) (v := v0) rfl q0
  have z := all2_cons gf
  clear gf
  obtain ⟨v0, fs, rfl, q0, gf⟩ := z
  cases (q0 : v0 = .inr (some (.inl 2)))
  have z := all2_cons gf
  clear gf
  obtain ⟨v0, fs, rfl, q0, gf⟩ := z
  cases (q0 : v0 = .inr (some (.inl 3)))
  have z := all2_cons gf
  clear gf
  obtain ⟨v0, fs, rfl, q0, gf⟩ := z
  cases gT_r (τ := τ) (t := 3) (v := v0) rfl q0
  have z := all2_cons gf
  clear gf
  obtain ⟨v0, fs, rfl, q0, gf⟩ := z
  cases gT_r (τ := τ) (t := 4) (v := v0) rfl q0
  have z := all2_cons gf
  clear gf
  obtain ⟨v0, fs, rfl, q0, gf⟩ := z
  obtain ⟨M_stampMany, rfl, e_M_stampMany, b_M_stampMany⟩ := gT_x (τ := τ) (t := 205) (v := v0) rfl q0
  have z := all2_cons gf
  clear gf
  obtain ⟨v0, fs, rfl, q0, gf⟩ := z
  cases (q0 : v0 = .inr (some (.inl 4)))
  have z := all2_cons gf
  clear gf
  obtain ⟨v0, fs, rfl, q0, gf⟩ := z
  obtain ⟨M_taped, rfl, b_M_taped⟩ := q0
  have z := all2_cons gf
  clear gf
  obtain ⟨v0, fs, rfl, q0, gf⟩ := z
  obtain ⟨M_place0, rfl, b_M_place0⟩ := q0
  have z := all2_cons gf
  clear gf
  obtain ⟨v0, fs, rfl, q0, gf⟩ := z
  obtain ⟨M_length0, rfl, b_M_length0⟩ := q0
  have z := all2_cons gf
  clear gf
  obtain ⟨v0, fs, rfl, q0, gf⟩ := z
  obtain ⟨M_fault, rfl, b_M_fault⟩ := q0
  have z := all2_cons gf
  clear gf
  obtain ⟨v0, fs, rfl, q0, gf⟩ := z
  obtain ⟨M_number0, rfl, b_M_number0⟩ := q0
  have z := all2_cons gf
  clear gf
  obtain ⟨v0, fs, rfl, q0, gf⟩ := z
  obtain ⟨M_open, rfl, b_M_open⟩ := q0
  have z := all2_cons gf
  clear gf
  obtain ⟨v0, fs, rfl, q0, gf⟩ := z
  obtain ⟨M_codeMany, rfl, b_M_codeMany⟩ := q0
  have z := all2_cons gf
  clear gf
  obtain ⟨v0, fs, rfl, q0, gf⟩ := z
  obtain ⟨M_waiting, rfl, b_M_waiting⟩ := q0
  have z := all2_cons gf
  clear gf
  obtain ⟨v0, fs, rfl, q0, gf⟩ := z
  obtain ⟨M_saidMany, rfl, b_M_saidMany⟩ := q0
  have z := all2_cons gf
  clear gf
  obtain ⟨v0, fs, rfl, q0, gf⟩ := z
  obtain ⟨M_clauses, rfl, e_M_clauses, b_M_clauses⟩ := gT_x (τ := τ) (t := 200) (v := v0) rfl q0
  have z := all2_cons gf
  clear gf
  obtain ⟨v0, fs, rfl, q0, gf⟩ := z
  cases gT_r (τ := τ) (t := 5) (v := v0) rfl q0
  have z := all2_cons gf
  clear gf
  obtain ⟨v0, fs, rfl, q0, gf⟩ := z
  cases gT_r (τ := τ) (t := 6) (v := v0) rfl q0
  have z := all2_cons gf
  clear gf
  obtain ⟨v0, fs, rfl, q0, gf⟩ := z
  cases gT_r (τ := τ) (t := 7) (v := v0) rfl q0
  have z := all2_cons gf
  clear gf
  obtain ⟨v0, fs, rfl, q0, gf⟩ := z
  cases gT_r (τ := τ) (t := 8) (v := v0) rfl q0
  have z := all2_cons gf
  clear gf
  obtain ⟨v0, fs, rfl, q0, gf⟩ := z
  cases gT_r (τ := τ) (t := 9) (v := v0) rfl q0
  have z := all2_cons gf
  clear gf
  obtain ⟨v0, fs, rfl, q0, gf⟩ := z
  cases gT_r (τ := τ) (t := 10) (v := v0) rfl q0
  have z := all2_cons gf
  clear gf
  obtain ⟨v0, fs, rfl, q0, gf⟩ := z
  cases gT_r (τ := τ) (t := 11) (v := v0) rfl q0
  have z := all2_cons gf
  clear gf
  obtain ⟨v0, fs, rfl, q0, gf⟩ := z
  cases gT_r (τ := τ) (t := 12) (v := v0) rfl q0
  have z := all2_cons gf
  clear gf
  obtain ⟨v0, fs, rfl, q0, gf⟩ := z
  cases gT_r (τ := τ) (t := 13) (v := v0) rfl q0
  have z := all2_cons gf
  clear gf
  obtain ⟨v0, fs, rfl, q0, gf⟩ := z
  cases gT_r (τ := τ) (t := 14) (v := v0) rfl q0
  have z := all2_cons gf
  clear gf
  obtain ⟨v0, fs, rfl, q0, gf⟩ := z
  cases gT_r (τ := τ) (t := 15) (v := v0) rfl q0
  have z := all2_cons gf
  clear gf
  obtain ⟨v0, fs, rfl, q0, gf⟩ := z
  cases gT_r (τ := τ) (t := 16) (v := v0) rfl q0
  have z := all2_cons gf
  clear gf
  obtain ⟨v0, fs, rfl, q0, gf⟩ := z
  cases gT_r (τ := τ) (t := 17) (v := v0) rfl q0
  have z := all2_cons gf
  clear gf
  obtain ⟨v0, fs, rfl, q0, gf⟩ := z
  cases (q0 : v0 = .inr (some (.inl 5)))
  have z := all2_cons gf
  clear gf
  obtain ⟨v0, fs, rfl, q0, gf⟩ := z
  cases (q0 : v0 = .inr (some (.inl 6)))
  have z := all2_cons gf
  clear gf
  obtain ⟨v0, fs, rfl, q0, gf⟩ := z
  cases (q0 : v0 = .inr (some (.inl 7)))
  have z := all2_cons gf
  clear gf
  obtain ⟨v0, fs, rfl, q0, gf⟩ := z
  cases (q0 : v0 = .inr (some (.inl 8)))
  have z := all2_cons gf
  clear gf
  obtain ⟨v0, fs, rfl, q0, gf⟩ := z
  obtain ⟨M_newMany, rfl, b_M_newMany⟩ := q0
  have z := all2_cons gf
  clear gf
  obtain ⟨v0, fs, rfl, q0, gf⟩ := z
  obtain ⟨M_rounds, rfl, b_M_rounds⟩ := q0
  have z := all2_cons gf
  clear gf
  obtain ⟨v0, fs, rfl, q0, gf⟩ := z
  obtain ⟨M_stampFrom, rfl, b_M_stampFrom⟩ := q0
  have z := all2_cons gf
  clear gf
  obtain ⟨v0, fs, rfl, q0, gf⟩ := z
  obtain ⟨M_stampTimes, rfl, b_M_stampTimes⟩ := q0
  have z := all2_cons gf
  clear gf
  obtain ⟨v0, fs, rfl, q0, gf⟩ := z
  obtain ⟨M_lines, rfl, b_M_lines⟩ := q0
  have z := all2_cons gf
  clear gf
  obtain ⟨v0, fs, rfl, q0, gf⟩ := z
  obtain ⟨M_spot0, rfl, b_M_spot0⟩ := q0
  have z := all2_cons gf
  clear gf
  obtain ⟨v0, fs, rfl, q0, gf⟩ := z
  obtain ⟨M_pullAcross, rfl, b_M_pullAcross⟩ := q0
  have z := all2_cons gf
  clear gf
  obtain ⟨v0, fs, rfl, q0, gf⟩ := z
  obtain ⟨M_pullAlong, rfl, b_M_pullAlong⟩ := q0
  have z := all2_cons gf
  clear gf
  obtain ⟨v0, fs, rfl, q0, gf⟩ := z
  obtain ⟨M_stepsNow, rfl, b_M_stepsNow⟩ := q0
  have z := all2_cons gf
  clear gf
  obtain ⟨v0, fs, rfl, q0, gf⟩ := z
  obtain ⟨M_fallenNow, rfl, b_M_fallenNow⟩ := q0
  have z := all2_cons gf
  clear gf
  obtain ⟨v0, fs, rfl, q0, gf⟩ := z
  cases gT_r (τ := τ) (t := 18) (v := v0) rfl q0
  have z := all2_cons gf
  clear gf
  obtain ⟨v0, fs, rfl, q0, gf⟩ := z
  cases gT_r (τ := τ) (t := 19) (v := v0) rfl q0
  have z := all2_cons gf
  clear gf
  obtain ⟨v0, fs, rfl, q0, gf⟩ := z
  cases gT_r (τ := τ) (t := 20) (v := v0) rfl q0
  have z := all2_cons gf
  clear gf
  obtain ⟨v0, fs, rfl, q0, gf⟩ := z
  cases gT_r (τ := τ) (t := 21) (v := v0) rfl q0
  have z := all2_cons gf
  clear gf
  obtain ⟨v0, fs, rfl, q0, gf⟩ := z
  cases gT_r (τ := τ) (t := 22) (v := v0) rfl q0
  have z := all2_cons gf
  clear gf
  obtain ⟨v0, fs, rfl, q0, gf⟩ := z
  obtain ⟨M_isKept, rfl, e_M_isKept, b_M_isKept⟩ := gT_x (τ := τ) (t := 201) (v := v0) rfl q0
  cases fs with
  | cons _ _ => exact gf.elim
  | nil =>
    have z := all2_cons hh
    clear hh
    obtain ⟨e1, h, rfl, g1, hh⟩ := z
    rcases e1 with ⟨t1, n1, M_now⟩ | ⟨ci, fs⟩
    rotate_left
    · exact g1.elim
    obtain ⟨et, en, b_M_now⟩ := g1
    cases (et : t1 = 0)
    cases en
    have z := all2_cons hh
    clear hh
    obtain ⟨e1, h, rfl, g1, hh⟩ := z
    rcases e1 with ⟨t1, n1, M_mintOf⟩ | ⟨ci, fs⟩
    rotate_left
    · exact g1.elim
    obtain ⟨et, en, b_M_mintOf⟩ := g1
    cases (et : t1 = 0)
    cases en
    have z := all2_cons hh
    clear hh
    obtain ⟨e1, h, rfl, g1, hh⟩ := z
    rcases e1 with ⟨t1, n1, M_wholeOf⟩ | ⟨ci, fs⟩
    rotate_left
    · exact g1.elim
    obtain ⟨et, en, b_M_wholeOf⟩ := g1
    cases (et : t1 = 0)
    cases en
    have z := all2_cons hh
    clear hh
    obtain ⟨e1, h, rfl, g1, hh⟩ := z
    rcases e1 with ⟨t1, n1, M_tape⟩ | ⟨ci, fs⟩
    rotate_left
    · exact g1.elim
    obtain ⟨et, en, b_M_tape⟩ := g1
    cases (et : t1 = 1)
    cases en
    have z := all2_cons hh
    clear hh
    obtain ⟨e1, h, rfl, g1, hh⟩ := z
    rcases e1 with ⟨t1, n1, M_newStamps⟩ | ⟨ci, fs⟩
    rotate_left
    · exact g1.elim
    obtain ⟨et, en, b_M_newStamps⟩ := g1
    cases (et : t1 = 0)
    cases en
    have z := all2_cons hh
    clear hh
    obtain ⟨e1, h, rfl, g1, hh⟩ := z
    rcases e1 with ⟨t1, n1, M_roundFrom⟩ | ⟨ci, fs⟩
    rotate_left
    · exact g1.elim
    obtain ⟨et, en, b_M_roundFrom⟩ := g1
    cases (et : t1 = 0)
    cases en
    have z := all2_cons hh
    clear hh
    obtain ⟨e1, h, rfl, g1, hh⟩ := z
    rcases e1 with ⟨t1, n1, M_roundAt⟩ | ⟨ci, fs⟩
    rotate_left
    · exact g1.elim
    obtain ⟨et, en, b_M_roundAt⟩ := g1
    cases (et : t1 = 0)
    cases en
    have z := all2_cons hh
    clear hh
    obtain ⟨e1, h, rfl, g1, hh⟩ := z
    rcases e1 with ⟨t1, n1, M_roundTimes⟩ | ⟨ci, fs⟩
    rotate_left
    · exact g1.elim
    obtain ⟨et, en, b_M_roundTimes⟩ := g1
    cases (et : t1 = 0)
    cases en
    cases h with
    | cons _ _ => exact hh.elim
    | nil =>
      obtain ⟨s, hs, rfl⟩ := rng_n (x := M_taped) (k := 260) (by omega) b_M_taped.2
      have es := sz_n (c := s) (by omega)
      obtain ⟨rF, eF⟩ := rg_x rfl b_M_tape
      obtain ⟨rMO, eMO⟩ := rg_x rfl b_M_mintOf
      obtain ⟨rGR, eGR⟩ := rg_x rfl b_M_wholeOf
      refine (x_X12_sheet (b := ob (fun i => f_and (decA (τ 251) i) 255)) (s := s) h1.1 (by omega) hs (by omega) (fun i hi => ob_ok (f := fun i => f_and (decA (τ 251) i) 255) (F := fun i => f_and (M_tape i) 255) (by omega) (by show f_and (M_tape i) 255 = f_and (decA (τ 251) i) 255; rw [eF i (by omega)]) oct_rng) (seg6_of (t := 600) rfl rfl b_M_now) rMO rGR (rg_of b_M_newStamps) b_M_stampMany).mono (fun r h' hp => ?_)
      obtain ⟨y, nw, mo, gr, ns, rf, ra, rt, sm, pp, f, nm, rd, sf, st, rfl, kQ, hst, k1, k2, k3, k4, k5, k6, rfl⟩ := hp
      have hq : shQ (ob (fun i => f_and (decA (τ 251) i) 255)) n (decA (τ 205) 0) (decA ((upL (upL (upL τ 257 (encA mo 48)) 258 (encA gr 48)) 205 [some (natOf sm)]) 205) 0) (decA (τ 257)) (decA ((upL (upL (upL τ 257 (encA mo 48)) 258 (encA gr 48)) 205 [some (natOf sm)]) 257)) (decA (τ 258)) (decA ((upL (upL (upL τ 257 (encA mo 48)) 258 (encA gr 48)) 205 [some (natOf sm)]) 258)) := by
        rcases hst with ⟨z1, z2, z3, z4⟩ | ⟨c, g, hc, z1, z2, z3⟩
        · refine Or.inl ⟨((natOf_ok _).trans z1).trans e_M_stampMany, fun i hi => ?_, fun i hi => ?_, z4⟩
          · exact (encA_ok hi).trans (by rw [z2]; exact eMO i hi)
          · exact (encA_ok hi).trans (by rw [z3]; exact eGR i hi)
        · exact Or.inr ⟨c, g, hc, (natOf_ok _).trans z1, z2, fun i hi => ⟨(encA_ok (Nat.lt_of_lt_of_le hi hc)).trans (z3 i hi).1, (encA_ok (Nat.lt_of_lt_of_le hi hc)).trans (z3 i hi).2⟩⟩
      exact ⟨upL (upL (upL τ 257 (encA mo 48)) 258 (encA gr 48)) 205 [some (natOf sm)], y, hΦ, fun t ht => (upL_ne (ch_s ht rfl rfl rfl).1).trans ((upL_ne (ch_s ht rfl rfl rfl).2.2).trans (upL_ne (ch_s ht rfl rfl rfl).2.1)), rfl, ⟨kQ, hq, fun i hi => by show 0 ≤ (decA (encA mo 48) i).toInt ∧ (decA (encA mo 48) i).toInt ≤ 7; rw [encA_ok hi]; exact k2 i hi, fun i hi => by show 0 ≤ (decA (encA gr 48) i).toInt ∧ (decA (encA gr 48) i).toInt ≤ 2; rw [encA_ok hi]; exact k3 i hi⟩, ⟨⟨rfl, rfl, rfl, rfl, rfl, rfl, rfl, rfl, rfl, gT_mk (t := 205) rfl (natOf_ok _).symm k5, rfl, ⟨0, rfl, by decide, by decide⟩, ⟨_, rfl, k6⟩, ⟨_, rfl, nr240 (by omega)⟩, topA_ok _, ⟨_, rfl, b_M_number0⟩, ⟨_, rfl, b_M_open⟩, ⟨0, rfl, by decide, by decide⟩, ⟨_, rfl, b_M_waiting⟩, ⟨0, rfl, by decide, by decide⟩, gT_mk rfl e_M_clauses b_M_clauses, rfl, rfl, rfl, rfl, rfl, rfl, rfl, rfl, rfl, rfl, rfl, rfl, rfl, rfl, rfl, rfl, rfl, topA_ok _, topA_ok _, topA_ok _, topA_ok _, ⟨_, rfl, b_M_lines⟩, ⟨_, rfl, b_M_spot0⟩, ⟨_, rfl, b_M_pullAcross⟩, ⟨_, rfl, b_M_pullAlong⟩, ⟨_, rfl, b_M_stepsNow⟩, ⟨_, rfl, b_M_fallenNow⟩, rfl, rfl, rfl, rfl, rfl, gT_mk rfl e_M_isKept b_M_isKept, trivial⟩, ⟨rfl, rfl, of_seg6 k1⟩, ⟨rfl, rfl, of_x rfl k2 (fun i hi => (encA_ok hi).symm)⟩, ⟨rfl, rfl, of_x rfl k3 (fun i hi => (encA_ok hi).symm)⟩, ⟨rfl, rfl, b_M_tape⟩, ⟨rfl, rfl, of_rg k4⟩, ⟨rfl, rfl, of_rg rg_top⟩, ⟨rfl, rfl, of_rg rg_top⟩, ⟨rfl, rfl, of_rg rg_top⟩, trivial⟩⟩

theorem rg_wlL : ∀ {os : List Ord} {f : Nat → Int32}, rg 384 0 1 f → rg 384 0 1 (wlL f os)
  | [], _, h => h
  | o :: os, f, h => rg_wlL (os := os) (f := wlO f o) (rg_wl h)
theorem rg_po {b : Nat → Nat} {n c T : Nat} {f : Nat → Int32} (h : rg 384 0 1 f) : rg 384 0 1 (poW b n c T f) := by
  unfold poW
  cases psR b n c T with
  | inl _ => exact h
  | inr os => exact rg_wlL h
theorem nr20 {c : Nat} (h : c ≤ 20) : 0 ≤ (nI c).toInt ∧ (nI c).toInt ≤ 20 := by rw [nI_toInt (by omega)]; omega
theorem tdst1 {τ : Nat → List (Option Nat)} {a : AV} {st : List PV} (h : all2 (gV ρ0 τ) [a] st) : ∃ v, st = [v] ∧ gV ρ0 τ a v := by
  obtain ⟨v, st', rfl, hv, h1⟩ := all2_cons h
  cases st' with
  | nil => exact ⟨v, rfl, hv⟩
  | cons _ _ => exact h1.elim
theorem tdst2 {τ : Nat → List (Option Nat)} {a b : AV} {st : List PV} (h : all2 (gV ρ0 τ) [a, b] st) : ∃ v w, st = [v, w] ∧ gV ρ0 τ a v ∧ gV ρ0 τ b w := by
  obtain ⟨v, st', rfl, hv, h1⟩ := all2_cons h
  obtain ⟨w, st'', rfl, hw, h2⟩ := all2_cons h1
  cases st'' with
  | nil => exact ⟨v, w, rfl, hv, hw⟩
  | cons _ _ => exact h2.elim
theorem ch_w {t a b : Nat} (h : (Nat.ble 100 t && (Nat.beq t a || Nat.beq t b)) = false) (ha : Nat.ble 100 a = true) (hb : Nat.ble 100 b = true) : t ≠ a ∧ t ≠ b := by
  refine ⟨fun z => ?_, fun z => ?_⟩
  · subst z
    rw [ha, Nat.beq_refl] at h
    cases h
  · subst z
    rw [hb, Nat.beq_refl, Bool.or_true] at h
    cases h
theorem wlO_c {f g : Nat → Int32} {o : Ord} (h : ∀ i, i < 384 → f i = g i) : ∀ i, i < 384 → wlO f o i = wlO g o i := by
  intro i hi
  by_cases e : o.1 = 35
  · have e1 : wlO f o = upd f o.2.2 (tgV (f o.2.2)) := if_pos e
    have e2 : wlO g o = upd g o.2.2 (tgV (g o.2.2)) := if_pos e
    rw [e1, e2]
    by_cases q : i = o.2.2
    · rw [← q, upd_sI, upd_sI, h i hi]
    · rw [upd_nI q, upd_nI q]
      exact h i hi
  · have e1 : wlO f o = f := if_neg e
    have e2 : wlO g o = g := if_neg e
    rw [e1, e2]
    exact h i hi
theorem wlL_c : ∀ {os : List Ord} {f g : Nat → Int32}, (∀ i, i < 384 → f i = g i) → ∀ i, i < 384 → wlL f os i = wlL g os i
  | [], _, _, h => h
  | o :: os, f, g, h => wlL_c (os := os) (f := wlO f o) (g := wlO g o) (wlO_c h)
theorem poW_c {b : Nat → Nat} {n c T : Nat} {f g : Nat → Int32} (h : ∀ i, i < 384 → f i = g i) : ∀ i, i < 384 → poW b n c T f i = poW b n c T g i := by
  unfold poW
  cases psR b n c T with
  | inl _ => exact h
  | inr os => exact wlL_c h
def HX_post20C : List AC := [.inr (10, [.inr (.inr (some (.inl 1))), .inr (.inr (some (.inl 12))), .inr (.inr (some (.inl 7))), .inr (.inr (some (.inr 0))), .inr (.inr (some (.inr 1))), .inr (.inr (some (.inr 2))), .inr (.inr (some (.inr 3))), .inr (.inr (some (.inr 4))), .inr (.inr (some (.inr 5))), .inr (.inr (some (.inl 3))), .inr (.inr (some (.inr 6))), .inr (.inr (some (.inr 7))), .inr (.inr (some (.inr 8))), .inr (.inr (some (.inr 9))), .inr (.inr (some (.inr 201)))]), .inr (9, [.inr (.inr (some (.inl 2))), .inl (20, 260)]), .inl (1000, 260, 0, 255), .inr (5, [.inr (.inr (some (.inl 2))), .inl (-2147483648, 2147483647), .inl (-2147483648, 2147483647), .inl (-2147483648, 2147483647), .inl (-2147483648, 2147483647), .inr (.inr (some (.inl 4))), .inr (.inr (some (.inl 5))), .inr (.inr (some (.inl 6))), .inl (0, 20), .inl (-2147483648, 2147483647), .inl (-2147483648, 2147483647)]), .inl (0, 20, -2147483648, 2147483647), .inl (0, 20, -2147483648, 2147483647), .inl (0, 20, -2147483648, 2147483647), .inr (4, [.inr (.inr (some (.inl 8))), .inr (.inr (some (.inl 9))), .inr (.inr (some (.inl 10))), .inr (.inr (some (.inl 11))), .inr (.inr (some (.inr 206))), .inl (-2147483648, 2147483647), .inl (-2147483648, 2147483647), .inl (-2147483648, 2147483647)]), .inl (0, 8, -2147483648, 2147483647), .inl (0, 8, -2147483648, 2147483647), .inl (0, 48, -2147483648, 2147483647), .inl (0, 48, -2147483648, 2147483647), .inr (6, [.inr (.inr (some (.inl 13))), .inr (.inr (some (.inl 14))), .inr (.inr (some (.inl 15))), .inr (.inr (some (.inl 16))), .inr (.inr (some (.inl 17))), .inr (.inr (some (.inr 203))), .inl (-2147483648, 2147483647), .inr (.inr (some (.inr 204)))]), .inl (1008, 8, -2147483648, 2147483647), .inl (1012, 8, -2147483648, 2147483647), .inl (1054, 384, 0, 1), .inl (1020, 48, -2147483648, 2147483647), .inl (1024, 48, -2147483648, 2147483647)]
def HY_post20C : List AC := hc_8b88427f46
set_option maxRecDepth 100000 in
theorem x_post20C {l : Launch} {n c T : Nat} (h1 : 1 ≤ n ∧ n ≤ 20) (hc : c ≤ 48) : conOkX (MetP l 6 yX11_post cX11_post 3 (some .int) 0 0) [nI n] HX_post20C HY_post20C (fun t => Nat.beq t 206 || Nat.beq t 263) (fun τ => decA (τ 204) 0 = nI c ∧ decA (τ 206) 0 = nI T) (fun τ τ' y => y = poY (ob (decA (τ 250))) n c T ∧ decA (τ' 206) 0 = nI (poT (ob (decA (τ 250))) n c T) ∧ ∃ F : Nat → Int32, (∀ i, i < 384 → F i = decA (τ 263) i) ∧ ∀ i, i < 384 → decA (τ' 263) i = poW (ob (decA (τ 250))) n c T F i) := by
  intro τ hΦ hP h hh
  have z := all2_cons hh
  clear hh
  obtain ⟨e0, h, rfl, g0, hh⟩ := z
  rcases e0 with ⟨t0, n0, f0⟩ | ⟨ci, fs⟩
  · exact g0.elim
  obtain ⟨rfl, gf⟩ := g0
  have z := all2_cons gf
  clear gf
  obtain ⟨v0, fs, rfl, q0, gf⟩ := z
  cases (q0 : v0 = .inr (some (.inl 1)))
  have z := all2_cons gf
  clear gf
  obtain ⟨v0, fs, rfl, q0, gf⟩ := z
  cases (q0 : v0 = .inr (some (.inl 12)))
  have z := all2_cons gf
  clear gf
  obtain ⟨v0, fs, rfl, q0, gf⟩ := z
  cases (q0 : v0 = .inr (some (.inl 7)))
  have z := all2_cons gf
  clear gf
  obtain ⟨v0, fs, rfl, q0, gf⟩ := z
  cases gT_r (τ := τ) (t := 0) (v := v0) rfl q0
  have z := all2_cons gf
  clear gf
  obtain ⟨v0, fs, rfl, q0, gf⟩ := z
  cases gT_r (τ := τ) (t := 1) (v := v0) rfl q0
  have z := all2_cons gf
  clear gf
  obtain ⟨v0, fs, rfl, q0, gf⟩ := z
  cases gT_r (τ := τ) (t := 2) (v := v0) rfl q0
  have z := all2_cons gf
  clear gf
  obtain ⟨v0, fs, rfl, q0, gf⟩ := z
  cases gT_r (τ := τ) (t := 3) (v := v0) rfl q0
  have z := all2_cons gf
  clear gf
  obtain ⟨v0, fs, rfl, q0, gf⟩ := z
  cases gT_r (τ := τ) (t := 4) (v := v0) rfl q0
  have z := all2_cons gf
  clear gf
  obtain ⟨v0, fs, rfl, q0, gf⟩ := z
  cases gT_r (τ := τ) (t := 5) (v := v0) rfl q0
  have z := all2_cons gf
  clear gf
  obtain ⟨v0, fs, rfl, q0, gf⟩ := z
  cases (q0 : v0 = .inr (some (.inl 3)))
  have z := all2_cons gf
  clear gf
  obtain ⟨v0, fs, rfl, q0, gf⟩ := z
  cases gT_r (τ := τ) (t := 6) (v := v0) rfl q0
  have z := all2_cons gf
  clear gf
  obtain ⟨v0, fs, rfl, q0, gf⟩ := z
  cases gT_r (τ := τ) (t := 7) (v := v0) rfl q0
  have z := all2_cons gf
  clear gf
  obtain ⟨v0, fs, rfl, q0, gf⟩ := z
  cases gT_r (τ := τ) (t := 8) (v := v0) rfl q0
  have z := all2_cons gf
  clear gf
  obtain ⟨v0, fs, rfl, q0, gf⟩ := z
  cases gT_r (τ := τ) (t := 9) (v := v0) rfl q0
  have z := all2_cons gf
  clear gf
  obtain ⟨v0, fs, rfl, q0, gf⟩ := z
  obtain ⟨HS_wasKept, rfl, e_HS_wasKept, b_HS_wasKept⟩ := gT_x (τ := τ) (t := 201) (v := v0) rfl q0
  cases fs with
  | cons _ _ => exact gf.elim
  | nil =>
    have z := all2_cons hh
    clear hh
    obtain ⟨e0, h, rfl, g0, hh⟩ := z
    rcases e0 with ⟨t0, n0, f0⟩ | ⟨ci, fs⟩
    · exact g0.elim
    obtain ⟨rfl, gf⟩ := g0
    have z := all2_cons gf
    clear gf
    obtain ⟨v0, fs, rfl, q0, gf⟩ := z
    cases (q0 : v0 = .inr (some (.inl 2)))
    have z := all2_cons gf
    clear gf
    obtain ⟨v0, fs, rfl, q0, gf⟩ := z
    obtain ⟨Tape_size, rfl, b_Tape_size⟩ := q0
    cases fs with
    | cons _ _ => exact gf.elim
    | nil =>
      have z := all2_cons hh
      clear hh
      obtain ⟨e1, h, rfl, g1, hh⟩ := z
      rcases e1 with ⟨t1, n1, Tape_bytes⟩ | ⟨ci, fs⟩
      rotate_left
      · exact g1.elim
      obtain ⟨et, en, b_Tape_bytes⟩ := g1
      cases (et : t1 = 0)
      cases en
      have z := all2_cons hh
      clear hh
      obtain ⟨e0, h, rfl, g0, hh⟩ := z
      rcases e0 with ⟨t0, n0, f0⟩ | ⟨ci, fs⟩
      · exact g0.elim
      obtain ⟨rfl, gf⟩ := g0
      have z := all2_cons gf
      clear gf
      obtain ⟨v0, fs, rfl, q0, gf⟩ := z
      cases (q0 : v0 = .inr (some (.inl 2)))
      have z := all2_cons gf
      clear gf
      obtain ⟨v0, fs, rfl, q0, gf⟩ := z
      obtain ⟨PR_end, rfl, b_PR_end⟩ := q0
      have z := all2_cons gf
      clear gf
      obtain ⟨v0, fs, rfl, q0, gf⟩ := z
      obtain ⟨PR_at, rfl, b_PR_at⟩ := q0
      have z := all2_cons gf
      clear gf
      obtain ⟨v0, fs, rfl, q0, gf⟩ := z
      obtain ⟨PR_ahead, rfl, b_PR_ahead⟩ := q0
      have z := all2_cons gf
      clear gf
      obtain ⟨v0, fs, rfl, q0, gf⟩ := z
      obtain ⟨PR_fault, rfl, b_PR_fault⟩ := q0
      have z := all2_cons gf
      clear gf
      obtain ⟨v0, fs, rfl, q0, gf⟩ := z
      cases (q0 : v0 = .inr (some (.inl 4)))
      have z := all2_cons gf
      clear gf
      obtain ⟨v0, fs, rfl, q0, gf⟩ := z
      cases (q0 : v0 = .inr (some (.inl 5)))
      have z := all2_cons gf
      clear gf
      obtain ⟨v0, fs, rfl, q0, gf⟩ := z
      cases (q0 : v0 = .inr (some (.inl 6)))
      have z := all2_cons gf
      clear gf
      obtain ⟨v0, fs, rfl, q0, gf⟩ := z
      obtain ⟨PR_lines, rfl, b_PR_lines⟩ := q0
      have z := all2_cons gf
      clear gf
      obtain ⟨v0, fs, rfl, q0, gf⟩ := z
      obtain ⟨PR_told, rfl, b_PR_told⟩ := q0
      have z := all2_cons gf
      clear gf
      obtain ⟨v0, fs, rfl, q0, gf⟩ := z
      obtain ⟨PR_stamps, rfl, b_PR_stamps⟩ := q0
      cases fs with
      | cons _ _ => exact gf.elim
      | nil =>
        have z := all2_cons hh
        clear hh
        obtain ⟨e1, h, rfl, g1, hh⟩ := z
        rcases e1 with ⟨t1, n1, PR_sign⟩ | ⟨ci, fs⟩
        rotate_left
        · exact g1.elim
        obtain ⟨et, en, b_PR_sign⟩ := g1
        cases (et : t1 = 0)
        cases en
        have z := all2_cons hh
        clear hh
        obtain ⟨e1, h, rfl, g1, hh⟩ := z
        rcases e1 with ⟨t1, n1, PR_letter⟩ | ⟨ci, fs⟩
        rotate_left
        · exact g1.elim
        obtain ⟨et, en, b_PR_letter⟩ := g1
        cases (et : t1 = 0)
        cases en
        have z := all2_cons hh
        clear hh
        obtain ⟨e1, h, rfl, g1, hh⟩ := z
        rcases e1 with ⟨t1, n1, PR_number⟩ | ⟨ci, fs⟩
        rotate_left
        · exact g1.elim
        obtain ⟨et, en, b_PR_number⟩ := g1
        cases (et : t1 = 0)
        cases en
        have z := all2_cons hh
        clear hh
        obtain ⟨e0, h, rfl, g0, hh⟩ := z
        rcases e0 with ⟨t0, n0, f0⟩ | ⟨ci, fs⟩
        · exact g0.elim
        obtain ⟨rfl, gf⟩ := g0
        have z := all2_cons gf
        clear gf
        obtain ⟨v0, fs, rfl, q0, gf⟩ := z
        cases (q0 : v0 = .inr (some (.inl 8)))
        have z := all2_cons gf
        clear gf
        obtain ⟨v0, fs, rfl, q0, gf⟩ := z
        cases (q0 : v0 = .inr (some (.inl 9)))
        have z := all2_cons gf
        clear gf
        obtain ⟨v0, fs, rfl, q0, gf⟩ := z
        cases (q0 : v0 = .inr (some (.inl 10)))
        have z := all2_cons gf
        clear gf
        obtain ⟨v0, fs, rfl, q0, gf⟩ := z
        cases (q0 : v0 = .inr (some (.inl 11)))
        have z := all2_cons gf
        clear gf
        obtain ⟨v0, fs, rfl, q0, gf⟩ := z
        obtain ⟨Now_told, rfl, e_Now_told, b_Now_told⟩ := gT_x (τ := τ) (t := 206) (v := v0) rfl q0
        have z := all2_cons gf
        clear gf
        obtain ⟨v0, fs, rfl, q0, gf⟩ := z
        obtain ⟨Now_walled, rfl, b_Now_walled⟩ := q0
        have z := all2_cons gf
        clear gf
        obtain ⟨v0, fs, rfl, q0, gf⟩ := z
        obtain ⟨Now_day, rfl, b_Now_day⟩ := q0
        have z := all2_cons gf
        clear gf
        obtain ⟨v0, fs, rfl, q0, gf⟩ := z
        obtain ⟨Now_drawState, rfl, b_Now_drawState⟩ := q0
        cases fs with
        | cons _ _ => exact gf.elim
        | nil =>
          have z := all2_cons hh
          clear hh
          obtain ⟨e1, h, rfl, g1, hh⟩ := z
          rcases e1 with ⟨t1, n1, Now_place⟩ | ⟨ci, fs⟩
          rotate_left
          · exact g1.elim
          obtain ⟨et, en, b_Now_place⟩ := g1
          cases (et : t1 = 0)
          cases en
          have z := all2_cons hh
          clear hh
          obtain ⟨e1, h, rfl, g1, hh⟩ := z
          rcases e1 with ⟨t1, n1, Now_paste⟩ | ⟨ci, fs⟩
          rotate_left
          · exact g1.elim
          obtain ⟨et, en, b_Now_paste⟩ := g1
          cases (et : t1 = 0)
          cases en
          have z := all2_cons hh
          clear hh
          obtain ⟨e1, h, rfl, g1, hh⟩ := z
          rcases e1 with ⟨t1, n1, Now_letter⟩ | ⟨ci, fs⟩
          rotate_left
          · exact g1.elim
          obtain ⟨et, en, b_Now_letter⟩ := g1
          cases (et : t1 = 0)
          cases en
          have z := all2_cons hh
          clear hh
          obtain ⟨e1, h, rfl, g1, hh⟩ := z
          rcases e1 with ⟨t1, n1, Now_used⟩ | ⟨ci, fs⟩
          rotate_left
          · exact g1.elim
          obtain ⟨et, en, b_Now_used⟩ := g1
          cases (et : t1 = 0)
          cases en
          have z := all2_cons hh
          clear hh
          obtain ⟨e0, h, rfl, g0, hh⟩ := z
          rcases e0 with ⟨t0, n0, f0⟩ | ⟨ci, fs⟩
          · exact g0.elim
          obtain ⟨rfl, gf⟩ := g0
          have z := all2_cons gf
          clear gf
          obtain ⟨v0, fs, rfl, q0, gf⟩ := z
          cases (q0 : v0 = .inr (some (.inl 13)))
          have z := all2_cons gf
          clear gf
          obtain ⟨v0, fs, rfl, q0, gf⟩ := z
          cases (q0 : v0 = .inr (some (.inl 14)))
          have z := all2_cons gf
          clear gf
          obtain ⟨v0, fs, rfl, q0, gf⟩ := z
          cases (q0 : v0 = .inr (some (.inl 15)))
          have z := all2_cons gf
          clear gf
          obtain ⟨v0, fs, rfl, q0, gf⟩ := z
          cases (q0 : v0 = .inr (some (.inl 16)))
          have z := all2_cons gf
          clear gf
          obtain ⟨v0, fs, rfl, q0, gf⟩ := z
          cases (q0 : v0 = .inr (some (.inl 17)))
          have z := all2_cons gf
          clear gf
          obtain ⟨v0, fs, rfl, q0, gf⟩ := z
          obtain ⟨Rep_toldMints, rfl, e_Rep_toldMints, b_Rep_toldMints⟩ := gT_x (τ := τ) (t := 203) (v := v0) rfl q0
          have z := all2_cons gf
          clear gf
          obtain ⟨v0, fs, rfl, q0, gf⟩ := z
          obtain ⟨Rep_walls, rfl, b_Rep_walls⟩ := q0
          have z := all2_cons gf
          clear gf
          obtain ⟨v0, fs, rfl, q0, gf⟩ := z
          obtain ⟨Rep_stamps, rfl, e_Rep_stamps, b_Rep_stamps⟩ := gT_x (τ := τ) (t := 204) (v := v0) rfl q0
          cases fs with
          | cons _ _ => exact gf.elim
          | nil =>
            have z := all2_cons hh
            clear hh
            obtain ⟨e1, h, rfl, g1, hh⟩ := z
            rcases e1 with ⟨t1, n1, Rep_mintX⟩ | ⟨ci, fs⟩
            rotate_left
            · exact g1.elim
            obtain ⟨et, en, b_Rep_mintX⟩ := g1
            cases (et : t1 = 0)
            cases en
            have z := all2_cons hh
            clear hh
            obtain ⟨e1, h, rfl, g1, hh⟩ := z
            rcases e1 with ⟨t1, n1, Rep_mintY⟩ | ⟨ci, fs⟩
            rotate_left
            · exact g1.elim
            obtain ⟨et, en, b_Rep_mintY⟩ := g1
            cases (et : t1 = 0)
            cases en
            have z := all2_cons hh
            clear hh
            obtain ⟨e1, h, rfl, g1, hh⟩ := z
            rcases e1 with ⟨t1, n1, Rep_wall⟩ | ⟨ci, fs⟩
            rotate_left
            · exact g1.elim
            obtain ⟨et, en, b_Rep_wall⟩ := g1
            cases (et : t1 = 2)
            cases en
            have z := all2_cons hh
            clear hh
            obtain ⟨e1, h, rfl, g1, hh⟩ := z
            rcases e1 with ⟨t1, n1, Rep_mintOf⟩ | ⟨ci, fs⟩
            rotate_left
            · exact g1.elim
            obtain ⟨et, en, b_Rep_mintOf⟩ := g1
            cases (et : t1 = 0)
            cases en
            have z := all2_cons hh
            clear hh
            obtain ⟨e1, h, rfl, g1, hh⟩ := z
            rcases e1 with ⟨t1, n1, Rep_grainsOf⟩ | ⟨ci, fs⟩
            rotate_left
            · exact g1.elim
            obtain ⟨et, en, b_Rep_grainsOf⟩ := g1
            cases (et : t1 = 0)
            cases en
            cases h with
            | cons _ _ => exact hh.elim
            | nil =>
              obtain ⟨s, hs, rfl⟩ := rng_n (x := Tape_size) (k := 260) (by omega) b_Tape_size.2
              have es := sz_n (c := s) (by omega)
              obtain ⟨rF, eF⟩ := rg_x rfl b_Tape_bytes
              obtain ⟨w1, w2⟩ := hP
              obtain rfl : Rep_stamps = nI c := e_Rep_stamps.trans w1
              obtain rfl : Now_told = nI T := e_Now_told.trans w2
              obtain ⟨rW, eW⟩ := rg_x rfl b_Rep_wall
              refine (c_X11_post (o := ob (decA (τ 250))) (n := n) (s := s) (c := c) (T := T) h1.1 (by omega) hs (by omega) hc (fun i hi => ob_ok (by omega) (eF i (by omega)) (rF i (by omega)))).mono (fun r h' hp => ?_)
              obtain ⟨at_, ah, fa, td, wd, ws, k, sg, lt, nu, pl, pa, le, us, hk, rfl, rfl⟩ := hp
              exact ⟨upL (upL τ 263 (encA (poW (ob (decA (τ 250))) n c T Rep_wall) 384)) 206 [some (natOf (nI (poT (ob (decA (τ 250))) n c T)))], _, hΦ, fun t ht => (upL_ne (ch_w ht rfl rfl).1).trans (upL_ne (ch_w ht rfl rfl).2), rfl, ⟨rfl, natOf_ok _, Rep_wall, eW, fun i hi => encA_ok hi⟩, ⟨⟨rfl, rfl, rfl, rfl, rfl, rfl, rfl, rfl, rfl, rfl, rfl, rfl, rfl, rfl, rfl, gT_mk rfl e_HS_wasKept b_HS_wasKept, trivial⟩, ⟨rfl, rfl, ⟨0, rfl, by decide, by decide⟩, trivial⟩, ⟨rfl, rfl, b_Tape_bytes⟩, ⟨rfl, rfl, topA_ok _, topA_ok _, topA_ok _, topA_ok _, rfl, rfl, rfl, ⟨_, rfl, nr20 hk⟩, topA_ok _, topA_ok _, trivial⟩, ⟨rfl, rfl, of_rg rg_top⟩, ⟨rfl, rfl, of_rg rg_top⟩, ⟨rfl, rfl, of_rg rg_top⟩, ⟨rfl, rfl, rfl, rfl, rfl, gT_mk (t := 206) rfl (natOf_ok _).symm ⟨i32lo _, i32hi _⟩, topA_ok _, ⟨_, rfl, b_Now_day⟩, ⟨_, rfl, b_Now_drawState⟩, trivial⟩, ⟨rfl, rfl, of_rg rg_top⟩, ⟨rfl, rfl, of_rg rg_top⟩, ⟨rfl, rfl, of_rg rg_top⟩, ⟨rfl, rfl, of_rg rg_top⟩, ⟨rfl, rfl, rfl, rfl, rfl, rfl, gT_mk rfl e_Rep_toldMints b_Rep_toldMints, topA_ok _, gT_mk rfl e_Rep_stamps b_Rep_stamps, trivial⟩, ⟨rfl, rfl, b_Rep_mintX⟩, ⟨rfl, rfl, b_Rep_mintY⟩, ⟨rfl, rfl, of_x rfl (rg_po rW) (fun i hi => (encA_ok hi).symm)⟩, ⟨rfl, rfl, b_Rep_mintOf⟩, ⟨rfl, rfl, b_Rep_grainsOf⟩, trivial⟩⟩

def HX_post20R : List AC := [.inr (11, [.inr (.inr (some (.inl 1))), .inr (.inr (some (.inl 2))), .inr (.inr (some (.inr 0))), .inr (.inr (some (.inr 1))), .inr (.inr (some (.inr 2))), .inr (.inr (some (.inr 3))), .inr (.inr (some (.inl 3))), .inr (.inr (some (.inl 4))), .inr (.inr (some (.inr 205))), .inr (.inr (some (.inl 5))), .inl (20, 260), .inl (0, 240), .inl (0, 240), .inl (-2147483648, 2147483647), .inl (-2147483648, 2147483647), .inl (-2147483648, 2147483647), .inl (0, 260), .inl (0, 260), .inl (0, 16), .inr (.inr (some (.inr 200))), .inr (.inr (some (.inr 4))), .inr (.inr (some (.inr 5))), .inr (.inr (some (.inr 6))), .inr (.inr (some (.inr 7))), .inr (.inr (some (.inr 8))), .inr (.inr (some (.inr 9))), .inr (.inr (some (.inr 10))), .inr (.inr (some (.inr 11))), .inr (.inr (some (.inr 12))), .inr (.inr (some (.inr 13))), .inr (.inr (some (.inr 14))), .inr (.inr (some (.inr 15))), .inr (.inr (some (.inr 16))), .inr (.inr (some (.inr 17))), .inr (.inr (some (.inr 18))), .inr (.inr (some (.inr 19))), .inr (.inr (some (.inr 20))), .inl (-2147483648, 2147483647), .inl (-2147483648, 2147483647), .inl (-2147483648, 2147483647), .inl (-2147483648, 2147483647), .inl (-2147483648, 2147483647), .inl (-2147483648, 2147483647), .inl (-2147483648, 2147483647), .inl (-2147483648, 2147483647), .inl (-2147483648, 2147483647), .inl (-2147483648, 2147483647), .inr (.inr (some (.inr 21))), .inr (.inr (some (.inr 22))), .inr (.inr (some (.inr 23))), .inr (.inr (some (.inr 24))), .inr (.inr (some (.inr 25))), .inr (.inr (some (.inr 201)))]), .inl (600, 130, 0, 383), .inl (3, 130, 0, 383), .inl (1058, 384, 0, 1), .inl (2, 384, 0, 1), .inl (1005, 260, -128, 127)]
def HY_post20R : List AC := hc_c75a9ccc1a
set_option maxRecDepth 100000 in
theorem x_post20R {l : Launch} {n c T : Nat} (h1 : 1 ≤ n ∧ n ≤ 20) (hc : c ≤ 48) : conOkX (MetP l 6 yX12_post cX12_post 4 (some .int) 0 0) [nI n] HX_post20R HY_post20R (fun t => Nat.beq t 208 || Nat.beq t 264) (fun τ => decA (τ 205) 0 = nI c ∧ tdM (decA (τ 208)) T) (fun τ τ' y => y = poY (ob (fun i => f_and (decA (τ 251) i) 255)) n c T ∧ tdM (decA (τ' 208)) (poT (ob (fun i => f_and (decA (τ 251) i) 255)) n c T) ∧ ∃ F : Nat → Int32, (∀ i, i < 384 → F i = decA (τ 264) i) ∧ ∀ i, i < 384 → decA (τ' 264) i = poW (ob (fun i => f_and (decA (τ 251) i) 255)) n c T F i) := by
  intro τ hΦ hP h hh
  have z := all2_cons hh
  clear hh
  obtain ⟨e0, h, rfl, g0, hh⟩ := z
  rcases e0 with ⟨t0, n0, f0⟩ | ⟨ci, fs⟩
  · exact g0.elim
  obtain ⟨rfl, gf⟩ := g0
  have z := all2_cons gf
  clear gf
  obtain ⟨v0, fs, rfl, q0, gf⟩ := z
  cases (q0 : v0 = .inr (some (.inl 1)))
  have z := all2_cons gf
  clear gf
  obtain ⟨v0, fs, rfl, q0, gf⟩ := z
  cases (q0 : v0 = .inr (some (.inl 2)))
  have z := all2_cons gf
  clear gf
  obtain ⟨v0, fs, rfl, q0, gf⟩ := z
  cases gT_r (τ := τ) (t := 0) (v := v0) rfl q0
  have z := all2_cons gf
  clear gf
  obtain ⟨v0, fs, rfl, q0, gf⟩ := z
  cases gT_r (τ := τ) (t := 1) (v := v0) rfl q0
  have z := all2_cons gf
  clear gf
  obtain ⟨v0, fs, rfl, q0, gf⟩ := z
  cases gT_r (τ := τ) (t := 2) (v := v0) rfl q0
  have z := all2_cons gf
  clear gf
  obtain ⟨v0, fs, rfl, q0, gf⟩ := z
  cases gT_r (τ := τ) (t := 3) (v := v0) rfl q0
  have z := all2_cons gf
  clear gf
  obtain ⟨v0, fs, rfl, q0, gf⟩ := z
  cases (q0 : v0 = .inr (some (.inl 3)))
  have z := all2_cons gf
  clear gf
  obtain ⟨v0, fs, rfl, q0, gf⟩ := z
  cases (q0 : v0 = .inr (some (.inl 4)))
  have z := all2_cons gf
  clear gf
  obtain ⟨v0, fs, rfl, q0, gf⟩ := z
  obtain ⟨M_stampMany, rfl, e_M_stampMany, b_M_stampMany⟩ := gT_x (τ := τ) (t := 205) (v := v0) rfl q0
  have z := all2_cons gf
  clear gf
  obtain ⟨v0, fs, rfl, q0, gf⟩ := z
  cases (q0 : v0 = .inr (some (.inl 5)))
  have z := all2_cons gf
  clear gf
  obtain ⟨v0, fs, rfl, q0, gf⟩ := z
  obtain ⟨M_taped, rfl, b_M_taped⟩ := q0
  have z := all2_cons gf
  clear gf
  obtain ⟨v0, fs, rfl, q0, gf⟩ := z
  obtain ⟨M_place0, rfl, b_M_place0⟩ := q0
  have z := all2_cons gf
  clear gf
  obtain ⟨v0, fs, rfl, q0, gf⟩ := z
  obtain ⟨M_length0, rfl, b_M_length0⟩ := q0
  have z := all2_cons gf
  clear gf
  obtain ⟨v0, fs, rfl, q0, gf⟩ := z
  obtain ⟨M_fault, rfl, b_M_fault⟩ := q0
  have z := all2_cons gf
  clear gf
  obtain ⟨v0, fs, rfl, q0, gf⟩ := z
  obtain ⟨M_number0, rfl, b_M_number0⟩ := q0
  have z := all2_cons gf
  clear gf
  obtain ⟨v0, fs, rfl, q0, gf⟩ := z
  obtain ⟨M_open, rfl, b_M_open⟩ := q0
  have z := all2_cons gf
  clear gf
  obtain ⟨v0, fs, rfl, q0, gf⟩ := z
  obtain ⟨M_codeMany, rfl, b_M_codeMany⟩ := q0
  have z := all2_cons gf
  clear gf
  obtain ⟨v0, fs, rfl, q0, gf⟩ := z
  obtain ⟨M_waiting, rfl, b_M_waiting⟩ := q0
  have z := all2_cons gf
  clear gf
  obtain ⟨v0, fs, rfl, q0, gf⟩ := z
  obtain ⟨M_saidMany, rfl, b_M_saidMany⟩ := q0
  have z := all2_cons gf
  clear gf
  obtain ⟨v0, fs, rfl, q0, gf⟩ := z
  obtain ⟨M_clauses, rfl, e_M_clauses, b_M_clauses⟩ := gT_x (τ := τ) (t := 200) (v := v0) rfl q0
  have z := all2_cons gf
  clear gf
  obtain ⟨v0, fs, rfl, q0, gf⟩ := z
  cases gT_r (τ := τ) (t := 4) (v := v0) rfl q0
  have z := all2_cons gf
  clear gf
  obtain ⟨v0, fs, rfl, q0, gf⟩ := z
  cases gT_r (τ := τ) (t := 5) (v := v0) rfl q0
  have z := all2_cons gf
  clear gf
  obtain ⟨v0, fs, rfl, q0, gf⟩ := z
  cases gT_r (τ := τ) (t := 6) (v := v0) rfl q0
  have z := all2_cons gf
  clear gf
  obtain ⟨v0, fs, rfl, q0, gf⟩ := z
  cases gT_r (τ := τ) (t := 7) (v := v0) rfl q0
  have z := all2_cons gf
  clear gf
  obtain ⟨v0, fs, rfl, q0, gf⟩ := z
  cases gT_r (τ := τ) (t := 8) (v := v0) rfl q0
  have z := all2_cons gf
  clear gf
  obtain ⟨v0, fs, rfl, q0, gf⟩ := z
  cases gT_r (τ := τ) (t := 9) (v := v0) rfl q0
  have z := all2_cons gf
  clear gf
  obtain ⟨v0, fs, rfl, q0, gf⟩ := z
  cases gT_r (τ := τ) (t := 10) (v := v0) rfl q0
  have z := all2_cons gf
  clear gf
  obtain ⟨v0, fs, rfl, q0, gf⟩ := z
  cases gT_r (τ := τ) (t := 11) (v := v0) rfl q0
  have z := all2_cons gf
  clear gf
  obtain ⟨v0, fs, rfl, q0, gf⟩ := z
  cases gT_r (τ := τ) (t := 12) (v := v0) rfl q0
  have z := all2_cons gf
  clear gf
  obtain ⟨v0, fs, rfl, q0, gf⟩ := z
  cases gT_r (τ := τ) (t := 13) (v := v0) rfl q0
  have z := all2_cons gf
  clear gf
  obtain ⟨v0, fs, rfl, q0, gf⟩ := z
  cases gT_r (τ := τ) (t := 14) (v := v0) rfl q0
  have z := all2_cons gf
  clear gf
  obtain ⟨v0, fs, rfl, q0, gf⟩ := z
  cases gT_r (τ := τ) (t := 15) (v := v0) rfl q0
  have z := all2_cons gf
  clear gf
  obtain ⟨v0, fs, rfl, q0, gf⟩ := z
  cases gT_r (τ := τ) (t := 16) (v := v0) rfl q0
  have z := all2_cons gf
  clear gf
  obtain ⟨v0, fs, rfl, q0, gf⟩ := z
  cases gT_r (τ := τ) (t := 17) (v := v0) rfl q0
  have z := all2_cons gf
  clear gf
  obtain ⟨v0, fs, rfl, q0, gf⟩ := z
  cases gT_r (τ := τ) (t := 18) (v := v0) rfl q0
  have z := all2_cons gf
  clear gf
  obtain ⟨v0, fs, rfl, q0, gf⟩ := z
  cases gT_r (τ := τ) (t := 19) (v := v0) rfl q0
  have z := all2_cons gf
  clear gf
  obtain ⟨v0, fs, rfl, q0, gf⟩ := z
  cases gT_r (τ := τ) (t := 20) (v := v0) rfl q0
  have z := all2_cons gf
  clear gf
  obtain ⟨v0, fs, rfl, q0, gf⟩ := z
  obtain ⟨M_newMany, rfl, b_M_newMany⟩ := q0
  have z := all2_cons gf
  clear gf
  obtain ⟨v0, fs, rfl, q0, gf⟩ := z
  obtain ⟨M_rounds, rfl, b_M_rounds⟩ := q0
  have z := all2_cons gf
  clear gf
  obtain ⟨v0, fs, rfl, q0, gf⟩ := z
  obtain ⟨M_stampFrom, rfl, b_M_stampFrom⟩ := q0
  have z := all2_cons gf
  clear gf
  obtain ⟨v0, fs, rfl, q0, gf⟩ := z
  obtain ⟨M_stampTimes, rfl, b_M_stampTimes⟩ := q0
  have z := all2_cons gf
  clear gf
  obtain ⟨v0, fs, rfl, q0, gf⟩ := z
  obtain ⟨M_lines, rfl, b_M_lines⟩ := q0
  have z := all2_cons gf
  clear gf
  obtain ⟨v0, fs, rfl, q0, gf⟩ := z
  obtain ⟨M_spot0, rfl, b_M_spot0⟩ := q0
  have z := all2_cons gf
  clear gf
  obtain ⟨v0, fs, rfl, q0, gf⟩ := z
  obtain ⟨M_pullAcross, rfl, b_M_pullAcross⟩ := q0
  have z := all2_cons gf
  clear gf
  obtain ⟨v0, fs, rfl, q0, gf⟩ := z
  obtain ⟨M_pullAlong, rfl, b_M_pullAlong⟩ := q0
  have z := all2_cons gf
  clear gf
  obtain ⟨v0, fs, rfl, q0, gf⟩ := z
  obtain ⟨M_stepsNow, rfl, b_M_stepsNow⟩ := q0
  have z := all2_cons gf
  clear gf
  obtain ⟨v0, fs, rfl, q0, gf⟩ := z
  obtain ⟨M_fallenNow, rfl, b_M_fallenNow⟩ := q0
  have z := all2_cons gf
  clear gf
  obtain ⟨v0, fs, rfl, q0, gf⟩ := z
  cases gT_r (τ := τ) (t := 21) (v := v0) rfl q0
  have z := all2_cons gf
  clear gf
  obtain ⟨v0, fs, rfl, q0, gf⟩ := z
  cases gT_r (τ := τ) (t := 22) (v := v0) rfl q0
  have z := all2_cons gf
  clear gf
  obtain ⟨v0, fs, rfl, q0, gf⟩ := z
  cases gT_r (τ := τ) (t := 23) (v := v0) rfl q0
  have z := all2_cons gf
  clear gf
  obtain ⟨v0, fs, rfl, q0, gf⟩ := z
  cases gT_r (τ := τ) (t := 24) (v := v0) rfl q0
  have z := all2_cons gf
  clear gf
  obtain ⟨v0, fs, rfl, q0, gf⟩ := z
  cases gT_r (τ := τ) (t := 25) (v := v0) rfl q0
  have z := all2_cons gf
  clear gf
  obtain ⟨v0, fs, rfl, q0, gf⟩ := z
  obtain ⟨M_isKept, rfl, e_M_isKept, b_M_isKept⟩ := gT_x (τ := τ) (t := 201) (v := v0) rfl q0
  cases fs with
  | cons _ _ => exact gf.elim
  | nil =>
    have z := all2_cons hh
    clear hh
    obtain ⟨e1, h, rfl, g1, hh⟩ := z
    rcases e1 with ⟨t1, n1, M_now⟩ | ⟨ci, fs⟩
    rotate_left
    · exact g1.elim
    obtain ⟨et, en, b_M_now⟩ := g1
    cases (et : t1 = 0)
    cases en
    have z := all2_cons hh
    clear hh
    obtain ⟨e1, h, rfl, g1, hh⟩ := z
    rcases e1 with ⟨t1, n1, M_aside⟩ | ⟨ci, fs⟩
    rotate_left
    · exact g1.elim
    obtain ⟨et, en, b_M_aside⟩ := g1
    cases (et : t1 = 0)
    cases en
    have z := all2_cons hh
    clear hh
    obtain ⟨e1, h, rfl, g1, hh⟩ := z
    rcases e1 with ⟨t1, n1, M_isWall⟩ | ⟨ci, fs⟩
    rotate_left
    · exact g1.elim
    obtain ⟨et, en, b_M_isWall⟩ := g1
    cases (et : t1 = 2)
    cases en
    have z := all2_cons hh
    clear hh
    obtain ⟨e1, h, rfl, g1, hh⟩ := z
    rcases e1 with ⟨t1, n1, M_wasWall⟩ | ⟨ci, fs⟩
    rotate_left
    · exact g1.elim
    obtain ⟨et, en, b_M_wasWall⟩ := g1
    cases (et : t1 = 2)
    cases en
    have z := all2_cons hh
    clear hh
    obtain ⟨e1, h, rfl, g1, hh⟩ := z
    rcases e1 with ⟨t1, n1, M_tape⟩ | ⟨ci, fs⟩
    rotate_left
    · exact g1.elim
    obtain ⟨et, en, b_M_tape⟩ := g1
    cases (et : t1 = 1)
    cases en
    cases h with
    | cons _ _ => exact hh.elim
    | nil =>
      obtain ⟨s, hs, rfl⟩ := rng_n (x := M_taped) (k := 260) (by omega) b_M_taped.2
      have es := sz_n (c := s) (by omega)
      obtain ⟨rF, eF⟩ := rg_x rfl b_M_tape
      obtain ⟨w1, w2⟩ := hP
      obtain rfl : M_stampMany = nI c := e_M_stampMany.trans w1
      have sg := seg6_of (t := 600) rfl rfl b_M_now
      obtain ⟨rW, eW⟩ := rg_x rfl b_M_isWall
      refine (x_X12_post (b := ob (fun i => f_and (decA (τ 251) i) 255)) (n := n) (s := s) (c := c) (T := T) h1.1 (by omega) hs (by omega) hc (fun i hi => ob_ok (f := fun i => f_and (decA (τ 251) i) 255) (F := fun i => f_and (M_tape i) 255) (by omega) (by show f_and (M_tape i) 255 = f_and (decA (τ 251) i) 255; rw [eF i (by omega)]) oct_rng) (fun i hi => (sg.2 i hi).trans (w2 i hi)) sg.1 rW (rg_of2 b_M_wasWall)).mono (fun r h' hp => ?_)
      obtain ⟨nw, as, wl, ww, pp, f, w, sp, ln, rfl, kT, kW, k1, k2, k3, k4, k5, rfl⟩ := hp
      exact ⟨upL (upL τ 264 (encA wl 384)) 208 (encA nw 8), _, hΦ, fun t ht => (upL_ne (ch_w ht rfl rfl).1).trans (upL_ne (ch_w ht rfl rfl).2), rfl, ⟨rfl, fun i hi => (encA_ok hi).trans (kT i hi), M_isWall, eW, fun i hi => (encA_ok hi).trans (kW i hi)⟩, ⟨⟨rfl, rfl, rfl, rfl, rfl, rfl, rfl, rfl, rfl, gT_mk rfl e_M_stampMany b_M_stampMany, rfl, ⟨0, rfl, by decide, by decide⟩, ⟨_, rfl, k5⟩, ⟨_, rfl, nr240 (by omega)⟩, topA_ok _, topA_ok _, ⟨_, rfl, b_M_open⟩, ⟨0, rfl, by decide, by decide⟩, ⟨_, rfl, b_M_waiting⟩, ⟨0, rfl, by decide, by decide⟩, gT_mk rfl e_M_clauses b_M_clauses, rfl, rfl, rfl, rfl, rfl, rfl, rfl, rfl, rfl, rfl, rfl, rfl, rfl, rfl, rfl, rfl, rfl, ⟨_, rfl, b_M_newMany⟩, ⟨_, rfl, b_M_rounds⟩, ⟨_, rfl, b_M_stampFrom⟩, ⟨_, rfl, b_M_stampTimes⟩, topA_ok _, topA_ok _, ⟨_, rfl, b_M_pullAcross⟩, ⟨_, rfl, b_M_pullAlong⟩, ⟨_, rfl, b_M_stepsNow⟩, ⟨_, rfl, b_M_fallenNow⟩, rfl, rfl, rfl, rfl, rfl, gT_mk rfl e_M_isKept b_M_isKept, trivial⟩, ⟨rfl, rfl, of_seg6 ⟨k1, fun i hi => (encA_ok hi).symm⟩⟩, ⟨rfl, rfl, of_seg k2⟩, ⟨rfl, rfl, of_x rfl k3 (fun i hi => (encA_ok hi).symm)⟩, ⟨rfl, rfl, of_rg2 k4⟩, ⟨rfl, rfl, b_M_tape⟩, trivial⟩⟩

def HX_post40C : List AC := [.inr (10, [.inr (.inr (some (.inl 1))), .inr (.inr (some (.inl 12))), .inr (.inr (some (.inl 7))), .inr (.inr (some (.inr 0))), .inr (.inr (some (.inr 1))), .inr (.inr (some (.inr 2))), .inr (.inr (some (.inr 3))), .inr (.inr (some (.inr 4))), .inr (.inr (some (.inr 5))), .inr (.inr (some (.inl 3))), .inr (.inr (some (.inr 6))), .inr (.inr (some (.inr 7))), .inr (.inr (some (.inr 8))), .inr (.inr (some (.inr 9))), .inr (.inr (some (.inr 201)))]), .inr (9, [.inr (.inr (some (.inl 2))), .inl (40, 260)]), .inl (1000, 260, 0, 255), .inr (5, [.inr (.inr (some (.inl 2))), .inl (-2147483648, 2147483647), .inl (-2147483648, 2147483647), .inl (-2147483648, 2147483647), .inl (-2147483648, 2147483647), .inr (.inr (some (.inl 4))), .inr (.inr (some (.inl 5))), .inr (.inr (some (.inl 6))), .inl (0, 20), .inl (-2147483648, 2147483647), .inl (-2147483648, 2147483647)]), .inl (0, 20, -2147483648, 2147483647), .inl (0, 20, -2147483648, 2147483647), .inl (0, 20, -2147483648, 2147483647), .inr (4, [.inr (.inr (some (.inl 8))), .inr (.inr (some (.inl 9))), .inr (.inr (some (.inl 10))), .inr (.inr (some (.inl 11))), .inr (.inr (some (.inr 206))), .inl (-2147483648, 2147483647), .inl (-2147483648, 2147483647), .inl (-2147483648, 2147483647)]), .inl (0, 8, -2147483648, 2147483647), .inl (0, 8, -2147483648, 2147483647), .inl (0, 48, -2147483648, 2147483647), .inl (0, 48, -2147483648, 2147483647), .inr (6, [.inr (.inr (some (.inl 13))), .inr (.inr (some (.inl 14))), .inr (.inr (some (.inl 15))), .inr (.inr (some (.inl 16))), .inr (.inr (some (.inl 17))), .inr (.inr (some (.inr 203))), .inl (-2147483648, 2147483647), .inr (.inr (some (.inr 204)))]), .inl (1008, 8, -2147483648, 2147483647), .inl (1012, 8, -2147483648, 2147483647), .inl (1054, 384, 0, 1), .inl (1020, 48, -2147483648, 2147483647), .inl (1024, 48, -2147483648, 2147483647)]
def HY_post40C : List AC := hc_8b88427f46
set_option maxRecDepth 100000 in
theorem x_post40C {l : Launch} {n c T : Nat} (h1 : 1 ≤ n ∧ n ≤ 40) (hc : c ≤ 48) : conOkX (MetP l 6 yX11_post cX11_post 3 (some .int) 0 0) [nI n] HX_post40C HY_post40C (fun t => Nat.beq t 206 || Nat.beq t 263) (fun τ => decA (τ 204) 0 = nI c ∧ decA (τ 206) 0 = nI T) (fun τ τ' y => y = poY (ob (decA (τ 250))) n c T ∧ decA (τ' 206) 0 = nI (poT (ob (decA (τ 250))) n c T) ∧ ∃ F : Nat → Int32, (∀ i, i < 384 → F i = decA (τ 263) i) ∧ ∀ i, i < 384 → decA (τ' 263) i = poW (ob (decA (τ 250))) n c T F i) := by
  intro τ hΦ hP h hh
  have z := all2_cons hh
  clear hh
  obtain ⟨e0, h, rfl, g0, hh⟩ := z
  rcases e0 with ⟨t0, n0, f0⟩ | ⟨ci, fs⟩
  · exact g0.elim
  obtain ⟨rfl, gf⟩ := g0
  have z := all2_cons gf
  clear gf
  obtain ⟨v0, fs, rfl, q0, gf⟩ := z
  cases (q0 : v0 = .inr (some (.inl 1)))
  have z := all2_cons gf
  clear gf
  obtain ⟨v0, fs, rfl, q0, gf⟩ := z
  cases (q0 : v0 = .inr (some (.inl 12)))
  have z := all2_cons gf
  clear gf
  obtain ⟨v0, fs, rfl, q0, gf⟩ := z
  cases (q0 : v0 = .inr (some (.inl 7)))
  have z := all2_cons gf
  clear gf
  obtain ⟨v0, fs, rfl, q0, gf⟩ := z
  cases gT_r (τ := τ) (t := 0) (v := v0) rfl q0
  have z := all2_cons gf
  clear gf
  obtain ⟨v0, fs, rfl, q0, gf⟩ := z
  cases gT_r (τ := τ) (t := 1) (v := v0) rfl q0
  have z := all2_cons gf
  clear gf
  obtain ⟨v0, fs, rfl, q0, gf⟩ := z
  cases gT_r (τ := τ) (t := 2) (v := v0) rfl q0
  have z := all2_cons gf
  clear gf
  obtain ⟨v0, fs, rfl, q0, gf⟩ := z
  cases gT_r (τ := τ) (t := 3) (v := v0) rfl q0
  have z := all2_cons gf
  clear gf
  obtain ⟨v0, fs, rfl, q0, gf⟩ := z
  cases gT_r (τ := τ) (t := 4) (v := v0) rfl q0
  have z := all2_cons gf
  clear gf
  obtain ⟨v0, fs, rfl, q0, gf⟩ := z
  cases gT_r (τ := τ) (t := 5) (v := v0) rfl q0
  have z := all2_cons gf
  clear gf
  obtain ⟨v0, fs, rfl, q0, gf⟩ := z
  cases (q0 : v0 = .inr (some (.inl 3)))
  have z := all2_cons gf
  clear gf
  obtain ⟨v0, fs, rfl, q0, gf⟩ := z
  cases gT_r (τ := τ) (t := 6) (v := v0) rfl q0
  have z := all2_cons gf
  clear gf
  obtain ⟨v0, fs, rfl, q0, gf⟩ := z
  cases gT_r (τ := τ) (t := 7) (v := v0) rfl q0
  have z := all2_cons gf
  clear gf
  obtain ⟨v0, fs, rfl, q0, gf⟩ := z
  cases gT_r (τ := τ) (t := 8) (v := v0) rfl q0
  have z := all2_cons gf
  clear gf
  obtain ⟨v0, fs, rfl, q0, gf⟩ := z
  cases gT_r (τ := τ) (t := 9) (v := v0) rfl q0
  have z := all2_cons gf
  clear gf
  obtain ⟨v0, fs, rfl, q0, gf⟩ := z
  obtain ⟨HS_wasKept, rfl, e_HS_wasKept, b_HS_wasKept⟩ := gT_x (τ := τ) (t := 201) (v := v0) rfl q0
  cases fs with
  | cons _ _ => exact gf.elim
  | nil =>
    have z := all2_cons hh
    clear hh
    obtain ⟨e0, h, rfl, g0, hh⟩ := z
    rcases e0 with ⟨t0, n0, f0⟩ | ⟨ci, fs⟩
    · exact g0.elim
    obtain ⟨rfl, gf⟩ := g0
    have z := all2_cons gf
    clear gf
    obtain ⟨v0, fs, rfl, q0, gf⟩ := z
    cases (q0 : v0 = .inr (some (.inl 2)))
    have z := all2_cons gf
    clear gf
    obtain ⟨v0, fs, rfl, q0, gf⟩ := z
    obtain ⟨Tape_size, rfl, b_Tape_size⟩ := q0
    cases fs with
    | cons _ _ => exact gf.elim
    | nil =>
      have z := all2_cons hh
      clear hh
      obtain ⟨e1, h, rfl, g1, hh⟩ := z
      rcases e1 with ⟨t1, n1, Tape_bytes⟩ | ⟨ci, fs⟩
      rotate_left
      · exact g1.elim
      obtain ⟨et, en, b_Tape_bytes⟩ := g1
      cases (et : t1 = 0)
      cases en
      have z := all2_cons hh
      clear hh
      obtain ⟨e0, h, rfl, g0, hh⟩ := z
      rcases e0 with ⟨t0, n0, f0⟩ | ⟨ci, fs⟩
      · exact g0.elim
      obtain ⟨rfl, gf⟩ := g0
      have z := all2_cons gf
      clear gf
      obtain ⟨v0, fs, rfl, q0, gf⟩ := z
      cases (q0 : v0 = .inr (some (.inl 2)))
      have z := all2_cons gf
      clear gf
      obtain ⟨v0, fs, rfl, q0, gf⟩ := z
      obtain ⟨PR_end, rfl, b_PR_end⟩ := q0
      have z := all2_cons gf
      clear gf
      obtain ⟨v0, fs, rfl, q0, gf⟩ := z
      obtain ⟨PR_at, rfl, b_PR_at⟩ := q0
      have z := all2_cons gf
      clear gf
      obtain ⟨v0, fs, rfl, q0, gf⟩ := z
      obtain ⟨PR_ahead, rfl, b_PR_ahead⟩ := q0
      have z := all2_cons gf
      clear gf
      obtain ⟨v0, fs, rfl, q0, gf⟩ := z
      obtain ⟨PR_fault, rfl, b_PR_fault⟩ := q0
      have z := all2_cons gf
      clear gf
      obtain ⟨v0, fs, rfl, q0, gf⟩ := z
      cases (q0 : v0 = .inr (some (.inl 4)))
      have z := all2_cons gf
      clear gf
      obtain ⟨v0, fs, rfl, q0, gf⟩ := z
      cases (q0 : v0 = .inr (some (.inl 5)))
      have z := all2_cons gf
      clear gf
      obtain ⟨v0, fs, rfl, q0, gf⟩ := z
      cases (q0 : v0 = .inr (some (.inl 6)))
      have z := all2_cons gf
      clear gf
      obtain ⟨v0, fs, rfl, q0, gf⟩ := z
      obtain ⟨PR_lines, rfl, b_PR_lines⟩ := q0
      have z := all2_cons gf
      clear gf
      obtain ⟨v0, fs, rfl, q0, gf⟩ := z
      obtain ⟨PR_told, rfl, b_PR_told⟩ := q0
      have z := all2_cons gf
      clear gf
      obtain ⟨v0, fs, rfl, q0, gf⟩ := z
      obtain ⟨PR_stamps, rfl, b_PR_stamps⟩ := q0
      cases fs with
      | cons _ _ => exact gf.elim
      | nil =>
        have z := all2_cons hh
        clear hh
        obtain ⟨e1, h, rfl, g1, hh⟩ := z
        rcases e1 with ⟨t1, n1, PR_sign⟩ | ⟨ci, fs⟩
        rotate_left
        · exact g1.elim
        obtain ⟨et, en, b_PR_sign⟩ := g1
        cases (et : t1 = 0)
        cases en
        have z := all2_cons hh
        clear hh
        obtain ⟨e1, h, rfl, g1, hh⟩ := z
        rcases e1 with ⟨t1, n1, PR_letter⟩ | ⟨ci, fs⟩
        rotate_left
        · exact g1.elim
        obtain ⟨et, en, b_PR_letter⟩ := g1
        cases (et : t1 = 0)
        cases en
        have z := all2_cons hh
        clear hh
        obtain ⟨e1, h, rfl, g1, hh⟩ := z
        rcases e1 with ⟨t1, n1, PR_number⟩ | ⟨ci, fs⟩
        rotate_left
        · exact g1.elim
        obtain ⟨et, en, b_PR_number⟩ := g1
        cases (et : t1 = 0)
        cases en
        have z := all2_cons hh
        clear hh
        obtain ⟨e0, h, rfl, g0, hh⟩ := z
        rcases e0 with ⟨t0, n0, f0⟩ | ⟨ci, fs⟩
        · exact g0.elim
        obtain ⟨rfl, gf⟩ := g0
        have z := all2_cons gf
        clear gf
        obtain ⟨v0, fs, rfl, q0, gf⟩ := z
        cases (q0 : v0 = .inr (some (.inl 8)))
        have z := all2_cons gf
        clear gf
        obtain ⟨v0, fs, rfl, q0, gf⟩ := z
        cases (q0 : v0 = .inr (some (.inl 9)))
        have z := all2_cons gf
        clear gf
        obtain ⟨v0, fs, rfl, q0, gf⟩ := z
        cases (q0 : v0 = .inr (some (.inl 10)))
        have z := all2_cons gf
        clear gf
        obtain ⟨v0, fs, rfl, q0, gf⟩ := z
        cases (q0 : v0 = .inr (some (.inl 11)))
        have z := all2_cons gf
        clear gf
        obtain ⟨v0, fs, rfl, q0, gf⟩ := z
        obtain ⟨Now_told, rfl, e_Now_told, b_Now_told⟩ := gT_x (τ := τ) (t := 206) (v := v0) rfl q0
        have z := all2_cons gf
        clear gf
        obtain ⟨v0, fs, rfl, q0, gf⟩ := z
        obtain ⟨Now_walled, rfl, b_Now_walled⟩ := q0
        have z := all2_cons gf
        clear gf
        obtain ⟨v0, fs, rfl, q0, gf⟩ := z
        obtain ⟨Now_day, rfl, b_Now_day⟩ := q0
        have z := all2_cons gf
        clear gf
        obtain ⟨v0, fs, rfl, q0, gf⟩ := z
        obtain ⟨Now_drawState, rfl, b_Now_drawState⟩ := q0
        cases fs with
        | cons _ _ => exact gf.elim
        | nil =>
          have z := all2_cons hh
          clear hh
          obtain ⟨e1, h, rfl, g1, hh⟩ := z
          rcases e1 with ⟨t1, n1, Now_place⟩ | ⟨ci, fs⟩
          rotate_left
          · exact g1.elim
          obtain ⟨et, en, b_Now_place⟩ := g1
          cases (et : t1 = 0)
          cases en
          have z := all2_cons hh
          clear hh
          obtain ⟨e1, h, rfl, g1, hh⟩ := z
          rcases e1 with ⟨t1, n1, Now_paste⟩ | ⟨ci, fs⟩
          rotate_left
          · exact g1.elim
          obtain ⟨et, en, b_Now_paste⟩ := g1
          cases (et : t1 = 0)
          cases en
          have z := all2_cons hh
          clear hh
          obtain ⟨e1, h, rfl, g1, hh⟩ := z
          rcases e1 with ⟨t1, n1, Now_letter⟩ | ⟨ci, fs⟩
          rotate_left
          · exact g1.elim
          obtain ⟨et, en, b_Now_letter⟩ := g1
          cases (et : t1 = 0)
          cases en
          have z := all2_cons hh
          clear hh
          obtain ⟨e1, h, rfl, g1, hh⟩ := z
          rcases e1 with ⟨t1, n1, Now_used⟩ | ⟨ci, fs⟩
          rotate_left
          · exact g1.elim
          obtain ⟨et, en, b_Now_used⟩ := g1
          cases (et : t1 = 0)
          cases en
          have z := all2_cons hh
          clear hh
          obtain ⟨e0, h, rfl, g0, hh⟩ := z
          rcases e0 with ⟨t0, n0, f0⟩ | ⟨ci, fs⟩
          · exact g0.elim
          obtain ⟨rfl, gf⟩ := g0
          have z := all2_cons gf
          clear gf
          obtain ⟨v0, fs, rfl, q0, gf⟩ := z
          cases (q0 : v0 = .inr (some (.inl 13)))
          have z := all2_cons gf
          clear gf
          obtain ⟨v0, fs, rfl, q0, gf⟩ := z
          cases (q0 : v0 = .inr (some (.inl 14)))
          have z := all2_cons gf
          clear gf
          obtain ⟨v0, fs, rfl, q0, gf⟩ := z
          cases (q0 : v0 = .inr (some (.inl 15)))
          have z := all2_cons gf
          clear gf
          obtain ⟨v0, fs, rfl, q0, gf⟩ := z
          cases (q0 : v0 = .inr (some (.inl 16)))
          have z := all2_cons gf
          clear gf
          obtain ⟨v0, fs, rfl, q0, gf⟩ := z
          cases (q0 : v0 = .inr (some (.inl 17)))
          have z := all2_cons gf
          clear gf
          obtain ⟨v0, fs, rfl, q0, gf⟩ := z
          obtain ⟨Rep_toldMints, rfl, e_Rep_toldMints, b_Rep_toldMints⟩ := gT_x (τ := τ) (t := 203) (v := v0) rfl q0
          have z := all2_cons gf
          clear gf
          obtain ⟨v0, fs, rfl, q0, gf⟩ := z
          obtain ⟨Rep_walls, rfl, b_Rep_walls⟩ := q0
          have z := all2_cons gf
          clear gf
          obtain ⟨v0, fs, rfl, q0, gf⟩ := z
          obtain ⟨Rep_stamps, rfl, e_Rep_stamps, b_Rep_stamps⟩ := gT_x (τ := τ) (t := 204) (v := v0) rfl q0
          cases fs with
          | cons _ _ => exact gf.elim
          | nil =>
            have z := all2_cons hh
            clear hh
            obtain ⟨e1, h, rfl, g1, hh⟩ := z
            rcases e1 with ⟨t1, n1, Rep_mintX⟩ | ⟨ci, fs⟩
            rotate_left
            · exact g1.elim
            obtain ⟨et, en, b_Rep_mintX⟩ := g1
            cases (et : t1 = 0)
            cases en
            have z := all2_cons hh
            clear hh
            obtain ⟨e1, h, rfl, g1, hh⟩ := z
            rcases e1 with ⟨t1, n1, Rep_mintY⟩ | ⟨ci, fs⟩
            rotate_left
            · exact g1.elim
            obtain ⟨et, en, b_Rep_mintY⟩ := g1
            cases (et : t1 = 0)
            cases en
            have z := all2_cons hh
            clear hh
            obtain ⟨e1, h, rfl, g1, hh⟩ := z
            rcases e1 with ⟨t1, n1, Rep_wall⟩ | ⟨ci, fs⟩
            rotate_left
            · exact g1.elim
            obtain ⟨et, en, b_Rep_wall⟩ := g1
            cases (et : t1 = 2)
            cases en
            have z := all2_cons hh
            clear hh
            obtain ⟨e1, h, rfl, g1, hh⟩ := z
            rcases e1 with ⟨t1, n1, Rep_mintOf⟩ | ⟨ci, fs⟩
            rotate_left
            · exact g1.elim
            obtain ⟨et, en, b_Rep_mintOf⟩ := g1
            cases (et : t1 = 0)
            cases en
            have z := all2_cons hh
            clear hh
            obtain ⟨e1, h, rfl, g1, hh⟩ := z
            rcases e1 with ⟨t1, n1, Rep_grainsOf⟩ | ⟨ci, fs⟩
            rotate_left
            · exact g1.elim
            obtain ⟨et, en, b_Rep_grainsOf⟩ := g1
            cases (et : t1 = 0)
            cases en
            cases h with
            | cons _ _ => exact hh.elim
            | nil =>
              obtain ⟨s, hs, rfl⟩ := rng_n (x := Tape_size) (k := 260) (by omega) b_Tape_size.2
              have es := sz_n (c := s) (by omega)
              obtain ⟨rF, eF⟩ := rg_x rfl b_Tape_bytes
              obtain ⟨w1, w2⟩ := hP
              obtain rfl : Rep_stamps = nI c := e_Rep_stamps.trans w1
              obtain rfl : Now_told = nI T := e_Now_told.trans w2
              obtain ⟨rW, eW⟩ := rg_x rfl b_Rep_wall
              refine (c_X11_post (o := ob (decA (τ 250))) (n := n) (s := s) (c := c) (T := T) h1.1 (by omega) hs (by omega) hc (fun i hi => ob_ok (by omega) (eF i (by omega)) (rF i (by omega)))).mono (fun r h' hp => ?_)
              obtain ⟨at_, ah, fa, td, wd, ws, k, sg, lt, nu, pl, pa, le, us, hk, rfl, rfl⟩ := hp
              exact ⟨upL (upL τ 263 (encA (poW (ob (decA (τ 250))) n c T Rep_wall) 384)) 206 [some (natOf (nI (poT (ob (decA (τ 250))) n c T)))], _, hΦ, fun t ht => (upL_ne (ch_w ht rfl rfl).1).trans (upL_ne (ch_w ht rfl rfl).2), rfl, ⟨rfl, natOf_ok _, Rep_wall, eW, fun i hi => encA_ok hi⟩, ⟨⟨rfl, rfl, rfl, rfl, rfl, rfl, rfl, rfl, rfl, rfl, rfl, rfl, rfl, rfl, rfl, gT_mk rfl e_HS_wasKept b_HS_wasKept, trivial⟩, ⟨rfl, rfl, ⟨0, rfl, by decide, by decide⟩, trivial⟩, ⟨rfl, rfl, b_Tape_bytes⟩, ⟨rfl, rfl, topA_ok _, topA_ok _, topA_ok _, topA_ok _, rfl, rfl, rfl, ⟨_, rfl, nr20 hk⟩, topA_ok _, topA_ok _, trivial⟩, ⟨rfl, rfl, of_rg rg_top⟩, ⟨rfl, rfl, of_rg rg_top⟩, ⟨rfl, rfl, of_rg rg_top⟩, ⟨rfl, rfl, rfl, rfl, rfl, gT_mk (t := 206) rfl (natOf_ok _).symm ⟨i32lo _, i32hi _⟩, topA_ok _, ⟨_, rfl, b_Now_day⟩, ⟨_, rfl, b_Now_drawState⟩, trivial⟩, ⟨rfl, rfl, of_rg rg_top⟩, ⟨rfl, rfl, of_rg rg_top⟩, ⟨rfl, rfl, of_rg rg_top⟩, ⟨rfl, rfl, of_rg rg_top⟩, ⟨rfl, rfl, rfl, rfl, rfl, rfl, gT_mk rfl e_Rep_toldMints b_Rep_toldMints, topA_ok _, gT_mk rfl e_Rep_stamps b_Rep_stamps, trivial⟩, ⟨rfl, rfl, b_Rep_mintX⟩, ⟨rfl, rfl, b_Rep_mintY⟩, ⟨rfl, rfl, of_x rfl (rg_po rW) (fun i hi => (encA_ok hi).symm)⟩, ⟨rfl, rfl, b_Rep_mintOf⟩, ⟨rfl, rfl, b_Rep_grainsOf⟩, trivial⟩⟩

def HX_post40R : List AC := [.inr (11, [.inr (.inr (some (.inl 1))), .inr (.inr (some (.inl 2))), .inr (.inr (some (.inr 0))), .inr (.inr (some (.inr 1))), .inr (.inr (some (.inr 2))), .inr (.inr (some (.inr 3))), .inr (.inr (some (.inl 3))), .inr (.inr (some (.inl 4))), .inr (.inr (some (.inr 205))), .inr (.inr (some (.inl 5))), .inl (40, 260), .inl (0, 240), .inl (0, 240), .inl (-2147483648, 2147483647), .inl (-2147483648, 2147483647), .inl (-2147483648, 2147483647), .inl (0, 260), .inl (0, 260), .inl (0, 16), .inr (.inr (some (.inr 200))), .inr (.inr (some (.inr 4))), .inr (.inr (some (.inr 5))), .inr (.inr (some (.inr 6))), .inr (.inr (some (.inr 7))), .inr (.inr (some (.inr 8))), .inr (.inr (some (.inr 9))), .inr (.inr (some (.inr 10))), .inr (.inr (some (.inr 11))), .inr (.inr (some (.inr 12))), .inr (.inr (some (.inr 13))), .inr (.inr (some (.inr 14))), .inr (.inr (some (.inr 15))), .inr (.inr (some (.inr 16))), .inr (.inr (some (.inr 17))), .inr (.inr (some (.inr 18))), .inr (.inr (some (.inr 19))), .inr (.inr (some (.inr 20))), .inl (-2147483648, 2147483647), .inl (-2147483648, 2147483647), .inl (-2147483648, 2147483647), .inl (-2147483648, 2147483647), .inl (-2147483648, 2147483647), .inl (-2147483648, 2147483647), .inl (-2147483648, 2147483647), .inl (-2147483648, 2147483647), .inl (-2147483648, 2147483647), .inl (-2147483648, 2147483647), .inr (.inr (some (.inr 21))), .inr (.inr (some (.inr 22))), .inr (.inr (some (.inr 23))), .inr (.inr (some (.inr 24))), .inr (.inr (some (.inr 25))), .inr (.inr (some (.inr 201)))]), .inl (600, 130, 0, 383), .inl (3, 130, 0, 383), .inl (1058, 384, 0, 1), .inl (2, 384, 0, 1), .inl (1005, 260, -128, 127)]
def HY_post40R : List AC := hc_c75a9ccc1a
set_option maxRecDepth 100000 in
theorem x_post40R {l : Launch} {n c T : Nat} (h1 : 1 ≤ n ∧ n ≤ 40) (hc : c ≤ 48) : conOkX (MetP l 6 yX12_post cX12_post 4 (some .int) 0 0) [nI n] HX_post40R HY_post40R (fun t => Nat.beq t 208 || Nat.beq t 264) (fun τ => decA (τ 205) 0 = nI c ∧ tdM (decA (τ 208)) T) (fun τ τ' y => y = poY (ob (fun i => f_and (decA (τ 251) i) 255)) n c T ∧ tdM (decA (τ' 208)) (poT (ob (fun i => f_and (decA (τ 251) i) 255)) n c T) ∧ ∃ F : Nat → Int32, (∀ i, i < 384 → F i = decA (τ 264) i) ∧ ∀ i, i < 384 → decA (τ' 264) i = poW (ob (fun i => f_and (decA (τ 251) i) 255)) n c T F i) := by
  intro τ hΦ hP h hh
  have z := all2_cons hh
  clear hh
  obtain ⟨e0, h, rfl, g0, hh⟩ := z
  rcases e0 with ⟨t0, n0, f0⟩ | ⟨ci, fs⟩
  · exact g0.elim
  obtain ⟨rfl, gf⟩ := g0
  have z := all2_cons gf
  clear gf
  obtain ⟨v0, fs, rfl, q0, gf⟩ := z
  cases (q0 : v0 = .inr (some (.inl 1)))
  have z := all2_cons gf
  clear gf
  obtain ⟨v0, fs, rfl, q0, gf⟩ := z
  cases (q0 : v0 = .inr (some (.inl 2)))
  have z := all2_cons gf
  clear gf
  obtain ⟨v0, fs, rfl, q0, gf⟩ := z
  cases gT_r (τ := τ) (t := 0) (v := v0) rfl q0
  have z := all2_cons gf
  clear gf
  obtain ⟨v0, fs, rfl, q0, gf⟩ := z
  cases gT_r (τ := τ) (t := 1) (v := v0) rfl q0
  have z := all2_cons gf
  clear gf
  obtain ⟨v0, fs, rfl, q0, gf⟩ := z
  cases gT_r (τ := τ) (t := 2) (v := v0) rfl q0
  have z := all2_cons gf
  clear gf
  obtain ⟨v0, fs, rfl, q0, gf⟩ := z
  cases gT_r (τ := τ) (t := 3) (v := v0) rfl q0
  have z := all2_cons gf
  clear gf
  obtain ⟨v0, fs, rfl, q0, gf⟩ := z
  cases (q0 : v0 = .inr (some (.inl 3)))
  have z := all2_cons gf
  clear gf
  obtain ⟨v0, fs, rfl, q0, gf⟩ := z
  cases (q0 : v0 = .inr (some (.inl 4)))
  have z := all2_cons gf
  clear gf
  obtain ⟨v0, fs, rfl, q0, gf⟩ := z
  obtain ⟨M_stampMany, rfl, e_M_stampMany, b_M_stampMany⟩ := gT_x (τ := τ) (t := 205) (v := v0) rfl q0
  have z := all2_cons gf
  clear gf
  obtain ⟨v0, fs, rfl, q0, gf⟩ := z
  cases (q0 : v0 = .inr (some (.inl 5)))
  have z := all2_cons gf
  clear gf
  obtain ⟨v0, fs, rfl, q0, gf⟩ := z
  obtain ⟨M_taped, rfl, b_M_taped⟩ := q0
  have z := all2_cons gf
  clear gf
  obtain ⟨v0, fs, rfl, q0, gf⟩ := z
  obtain ⟨M_place0, rfl, b_M_place0⟩ := q0
  have z := all2_cons gf
  clear gf
  obtain ⟨v0, fs, rfl, q0, gf⟩ := z
  obtain ⟨M_length0, rfl, b_M_length0⟩ := q0
  have z := all2_cons gf
  clear gf
  obtain ⟨v0, fs, rfl, q0, gf⟩ := z
  obtain ⟨M_fault, rfl, b_M_fault⟩ := q0
  have z := all2_cons gf
  clear gf
  obtain ⟨v0, fs, rfl, q0, gf⟩ := z
  obtain ⟨M_number0, rfl, b_M_number0⟩ := q0
  have z := all2_cons gf
  clear gf
  obtain ⟨v0, fs, rfl, q0, gf⟩ := z
  obtain ⟨M_open, rfl, b_M_open⟩ := q0
  have z := all2_cons gf
  clear gf
  obtain ⟨v0, fs, rfl, q0, gf⟩ := z
  obtain ⟨M_codeMany, rfl, b_M_codeMany⟩ := q0
  have z := all2_cons gf
  clear gf
  obtain ⟨v0, fs, rfl, q0, gf⟩ := z
  obtain ⟨M_waiting, rfl, b_M_waiting⟩ := q0
  have z := all2_cons gf
  clear gf
  obtain ⟨v0, fs, rfl, q0, gf⟩ := z
  obtain ⟨M_saidMany, rfl, b_M_saidMany⟩ := q0
  have z := all2_cons gf
  clear gf
  obtain ⟨v0, fs, rfl, q0, gf⟩ := z
  obtain ⟨M_clauses, rfl, e_M_clauses, b_M_clauses⟩ := gT_x (τ := τ) (t := 200) (v := v0) rfl q0
  have z := all2_cons gf
  clear gf
  obtain ⟨v0, fs, rfl, q0, gf⟩ := z
  cases gT_r (τ := τ) (t := 4) (v := v0) rfl q0
  have z := all2_cons gf
  clear gf
  obtain ⟨v0, fs, rfl, q0, gf⟩ := z
  cases gT_r (τ := τ) (t := 5) (v := v0) rfl q0
  have z := all2_cons gf
  clear gf
  obtain ⟨v0, fs, rfl, q0, gf⟩ := z
  cases gT_r (τ := τ) (t := 6) (v := v0) rfl q0
  have z := all2_cons gf
  clear gf
  obtain ⟨v0, fs, rfl, q0, gf⟩ := z
  cases gT_r (τ := τ) (t := 7) (v := v0) rfl q0
  have z := all2_cons gf
  clear gf
  obtain ⟨v0, fs, rfl, q0, gf⟩ := z
  cases gT_r (τ := τ) (t := 8) (v := v0) rfl q0
  have z := all2_cons gf
  clear gf
  obtain ⟨v0, fs, rfl, q0, gf⟩ := z
  cases gT_r (τ := τ) (t := 9) (v := v0) rfl q0
  have z := all2_cons gf
  clear gf
  obtain ⟨v0, fs, rfl, q0, gf⟩ := z
  cases gT_r (τ := τ) (t := 10) (v := v0) rfl q0
  have z := all2_cons gf
  clear gf
  obtain ⟨v0, fs, rfl, q0, gf⟩ := z
  cases gT_r (τ := τ) (t := 11) (v := v0) rfl q0
  have z := all2_cons gf
  clear gf
  obtain ⟨v0, fs, rfl, q0, gf⟩ := z
  cases gT_r (τ := τ) (t := 12) (v := v0) rfl q0
  have z := all2_cons gf
  clear gf
  obtain ⟨v0, fs, rfl, q0, gf⟩ := z
  cases gT_r (τ := τ) (t := 13) (v := v0) rfl q0
  have z := all2_cons gf
  clear gf
  obtain ⟨v0, fs, rfl, q0, gf⟩ := z
  cases gT_r (τ := τ) (t := 14) (v := v0) rfl q0
  have z := all2_cons gf
  clear gf
  obtain ⟨v0, fs, rfl, q0, gf⟩ := z
  cases gT_r (τ := τ) (t := 15) (v := v0) rfl q0
  have z := all2_cons gf
  clear gf
  obtain ⟨v0, fs, rfl, q0, gf⟩ := z
  cases gT_r (τ := τ) (t := 16) (v := v0) rfl q0
  have z := all2_cons gf
  clear gf
  obtain ⟨v0, fs, rfl, q0, gf⟩ := z
  cases gT_r (τ := τ) (t := 17) (v := v0) rfl q0
  have z := all2_cons gf
  clear gf
  obtain ⟨v0, fs, rfl, q0, gf⟩ := z
  cases gT_r (τ := τ) (t := 18) (v := v0) rfl q0
  have z := all2_cons gf
  clear gf
  obtain ⟨v0, fs, rfl, q0, gf⟩ := z
  cases gT_r (τ := τ) (t := 19) (v := v0) rfl q0
  have z := all2_cons gf
  clear gf
  obtain ⟨v0, fs, rfl, q0, gf⟩ := z
  cases gT_r (τ := τ) (t := 20) (v := v0) rfl q0
  have z := all2_cons gf
  clear gf
  obtain ⟨v0, fs, rfl, q0, gf⟩ := z
  obtain ⟨M_newMany, rfl, b_M_newMany⟩ := q0
  have z := all2_cons gf
  clear gf
  obtain ⟨v0, fs, rfl, q0, gf⟩ := z
  obtain ⟨M_rounds, rfl, b_M_rounds⟩ := q0
  have z := all2_cons gf
  clear gf
  obtain ⟨v0, fs, rfl, q0, gf⟩ := z
  obtain ⟨M_stampFrom, rfl, b_M_stampFrom⟩ := q0
  have z := all2_cons gf
  clear gf
  obtain ⟨v0, fs, rfl, q0, gf⟩ := z
  obtain ⟨M_stampTimes, rfl, b_M_stampTimes⟩ := q0
  have z := all2_cons gf
  clear gf
  obtain ⟨v0, fs, rfl, q0, gf⟩ := z
  obtain ⟨M_lines, rfl, b_M_lines⟩ := q0
  have z := all2_cons gf
  clear gf
  obtain ⟨v0, fs, rfl, q0, gf⟩ := z
  obtain ⟨M_spot0, rfl, b_M_spot0⟩ := q0
  have z := all2_cons gf
  clear gf
  obtain ⟨v0, fs, rfl, q0, gf⟩ := z
  obtain ⟨M_pullAcross, rfl, b_M_pullAcross⟩ := q0
  have z := all2_cons gf
  clear gf
  obtain ⟨v0, fs, rfl, q0, gf⟩ := z
  obtain ⟨M_pullAlong, rfl, b_M_pullAlong⟩ := q0
  have z := all2_cons gf
  clear gf
  obtain ⟨v0, fs, rfl, q0, gf⟩ := z
  obtain ⟨M_stepsNow, rfl, b_M_stepsNow⟩ := q0
  have z := all2_cons gf
  clear gf
  obtain ⟨v0, fs, rfl, q0, gf⟩ := z
  obtain ⟨M_fallenNow, rfl, b_M_fallenNow⟩ := q0
  have z := all2_cons gf
  clear gf
  obtain ⟨v0, fs, rfl, q0, gf⟩ := z
  cases gT_r (τ := τ) (t := 21) (v := v0) rfl q0
  have z := all2_cons gf
  clear gf
  obtain ⟨v0, fs, rfl, q0, gf⟩ := z
  cases gT_r (τ := τ) (t := 22) (v := v0) rfl q0
  have z := all2_cons gf
  clear gf
  obtain ⟨v0, fs, rfl, q0, gf⟩ := z
  cases gT_r (τ := τ) (t := 23) (v := v0) rfl q0
  have z := all2_cons gf
  clear gf
  obtain ⟨v0, fs, rfl, q0, gf⟩ := z
  cases gT_r (τ := τ) (t := 24) (v := v0) rfl q0
  have z := all2_cons gf
  clear gf
  obtain ⟨v0, fs, rfl, q0, gf⟩ := z
  cases gT_r (τ := τ) (t := 25) (v := v0) rfl q0
  have z := all2_cons gf
  clear gf
  obtain ⟨v0, fs, rfl, q0, gf⟩ := z
  obtain ⟨M_isKept, rfl, e_M_isKept, b_M_isKept⟩ := gT_x (τ := τ) (t := 201) (v := v0) rfl q0
  cases fs with
  | cons _ _ => exact gf.elim
  | nil =>
    have z := all2_cons hh
    clear hh
    obtain ⟨e1, h, rfl, g1, hh⟩ := z
    rcases e1 with ⟨t1, n1, M_now⟩ | ⟨ci, fs⟩
    rotate_left
    · exact g1.elim
    obtain ⟨et, en, b_M_now⟩ := g1
    cases (et : t1 = 0)
    cases en
    have z := all2_cons hh
    clear hh
    obtain ⟨e1, h, rfl, g1, hh⟩ := z
    rcases e1 with ⟨t1, n1, M_aside⟩ | ⟨ci, fs⟩
    rotate_left
    · exact g1.elim
    obtain ⟨et, en, b_M_aside⟩ := g1
    cases (et : t1 = 0)
    cases en
    have z := all2_cons hh
    clear hh
    obtain ⟨e1, h, rfl, g1, hh⟩ := z
    rcases e1 with ⟨t1, n1, M_isWall⟩ | ⟨ci, fs⟩
    rotate_left
    · exact g1.elim
    obtain ⟨et, en, b_M_isWall⟩ := g1
    cases (et : t1 = 2)
    cases en
    have z := all2_cons hh
    clear hh
    obtain ⟨e1, h, rfl, g1, hh⟩ := z
    rcases e1 with ⟨t1, n1, M_wasWall⟩ | ⟨ci, fs⟩
    rotate_left
    · exact g1.elim
    obtain ⟨et, en, b_M_wasWall⟩ := g1
    cases (et : t1 = 2)
    cases en
    have z := all2_cons hh
    clear hh
    obtain ⟨e1, h, rfl, g1, hh⟩ := z
    rcases e1 with ⟨t1, n1, M_tape⟩ | ⟨ci, fs⟩
    rotate_left
    · exact g1.elim
    obtain ⟨et, en, b_M_tape⟩ := g1
    cases (et : t1 = 1)
    cases en
    cases h with
    | cons _ _ => exact hh.elim
    | nil =>
      obtain ⟨s, hs, rfl⟩ := rng_n (x := M_taped) (k := 260) (by omega) b_M_taped.2
      have es := sz_n (c := s) (by omega)
      obtain ⟨rF, eF⟩ := rg_x rfl b_M_tape
      obtain ⟨w1, w2⟩ := hP
      obtain rfl : M_stampMany = nI c := e_M_stampMany.trans w1
      have sg := seg6_of (t := 600) rfl rfl b_M_now
      obtain ⟨rW, eW⟩ := rg_x rfl b_M_isWall
      refine (x_X12_post (b := ob (fun i => f_and (decA (τ 251) i) 255)) (n := n) (s := s) (c := c) (T := T) h1.1 (by omega) hs (by omega) hc (fun i hi => ob_ok (f := fun i => f_and (decA (τ 251) i) 255) (F := fun i => f_and (M_tape i) 255) (by omega) (by show f_and (M_tape i) 255 = f_and (decA (τ 251) i) 255; rw [eF i (by omega)]) oct_rng) (fun i hi => (sg.2 i hi).trans (w2 i hi)) sg.1 rW (rg_of2 b_M_wasWall)).mono (fun r h' hp => ?_)
      obtain ⟨nw, as, wl, ww, pp, f, w, sp, ln, rfl, kT, kW, k1, k2, k3, k4, k5, rfl⟩ := hp
      exact ⟨upL (upL τ 264 (encA wl 384)) 208 (encA nw 8), _, hΦ, fun t ht => (upL_ne (ch_w ht rfl rfl).1).trans (upL_ne (ch_w ht rfl rfl).2), rfl, ⟨rfl, fun i hi => (encA_ok hi).trans (kT i hi), M_isWall, eW, fun i hi => (encA_ok hi).trans (kW i hi)⟩, ⟨⟨rfl, rfl, rfl, rfl, rfl, rfl, rfl, rfl, rfl, gT_mk rfl e_M_stampMany b_M_stampMany, rfl, ⟨0, rfl, by decide, by decide⟩, ⟨_, rfl, k5⟩, ⟨_, rfl, nr240 (by omega)⟩, topA_ok _, topA_ok _, ⟨_, rfl, b_M_open⟩, ⟨0, rfl, by decide, by decide⟩, ⟨_, rfl, b_M_waiting⟩, ⟨0, rfl, by decide, by decide⟩, gT_mk rfl e_M_clauses b_M_clauses, rfl, rfl, rfl, rfl, rfl, rfl, rfl, rfl, rfl, rfl, rfl, rfl, rfl, rfl, rfl, rfl, rfl, ⟨_, rfl, b_M_newMany⟩, ⟨_, rfl, b_M_rounds⟩, ⟨_, rfl, b_M_stampFrom⟩, ⟨_, rfl, b_M_stampTimes⟩, topA_ok _, topA_ok _, ⟨_, rfl, b_M_pullAcross⟩, ⟨_, rfl, b_M_pullAlong⟩, ⟨_, rfl, b_M_stepsNow⟩, ⟨_, rfl, b_M_fallenNow⟩, rfl, rfl, rfl, rfl, rfl, gT_mk rfl e_M_isKept b_M_isKept, trivial⟩, ⟨rfl, rfl, of_seg6 ⟨k1, fun i hi => (encA_ok hi).symm⟩⟩, ⟨rfl, rfl, of_seg k2⟩, ⟨rfl, rfl, of_x rfl k3 (fun i hi => (encA_ok hi).symm)⟩, ⟨rfl, rfl, of_rg2 k4⟩, ⟨rfl, rfl, b_M_tape⟩, trivial⟩⟩

def HX_post60C : List AC := [.inr (10, [.inr (.inr (some (.inl 1))), .inr (.inr (some (.inl 12))), .inr (.inr (some (.inl 7))), .inr (.inr (some (.inr 0))), .inr (.inr (some (.inr 1))), .inr (.inr (some (.inr 2))), .inr (.inr (some (.inr 3))), .inr (.inr (some (.inr 4))), .inr (.inr (some (.inr 5))), .inr (.inr (some (.inl 3))), .inr (.inr (some (.inr 6))), .inr (.inr (some (.inr 7))), .inr (.inr (some (.inr 8))), .inr (.inr (some (.inr 9))), .inr (.inr (some (.inr 201)))]), .inr (9, [.inr (.inr (some (.inl 2))), .inl (60, 260)]), .inl (1000, 260, 0, 255), .inr (5, [.inr (.inr (some (.inl 2))), .inl (-2147483648, 2147483647), .inl (-2147483648, 2147483647), .inl (-2147483648, 2147483647), .inl (-2147483648, 2147483647), .inr (.inr (some (.inl 4))), .inr (.inr (some (.inl 5))), .inr (.inr (some (.inl 6))), .inl (0, 20), .inl (-2147483648, 2147483647), .inl (-2147483648, 2147483647)]), .inl (0, 20, -2147483648, 2147483647), .inl (0, 20, -2147483648, 2147483647), .inl (0, 20, -2147483648, 2147483647), .inr (4, [.inr (.inr (some (.inl 8))), .inr (.inr (some (.inl 9))), .inr (.inr (some (.inl 10))), .inr (.inr (some (.inl 11))), .inr (.inr (some (.inr 206))), .inl (-2147483648, 2147483647), .inl (-2147483648, 2147483647), .inl (-2147483648, 2147483647)]), .inl (0, 8, -2147483648, 2147483647), .inl (0, 8, -2147483648, 2147483647), .inl (0, 48, -2147483648, 2147483647), .inl (0, 48, -2147483648, 2147483647), .inr (6, [.inr (.inr (some (.inl 13))), .inr (.inr (some (.inl 14))), .inr (.inr (some (.inl 15))), .inr (.inr (some (.inl 16))), .inr (.inr (some (.inl 17))), .inr (.inr (some (.inr 203))), .inl (-2147483648, 2147483647), .inr (.inr (some (.inr 204)))]), .inl (1008, 8, -2147483648, 2147483647), .inl (1012, 8, -2147483648, 2147483647), .inl (1054, 384, 0, 1), .inl (1020, 48, -2147483648, 2147483647), .inl (1024, 48, -2147483648, 2147483647)]
def HY_post60C : List AC := hc_8b88427f46
set_option maxRecDepth 100000 in
theorem x_post60C {l : Launch} {n c T : Nat} (h1 : 1 ≤ n ∧ n ≤ 60) (hc : c ≤ 48) : conOkX (MetP l 6 yX11_post cX11_post 3 (some .int) 0 0) [nI n] HX_post60C HY_post60C (fun t => Nat.beq t 206 || Nat.beq t 263) (fun τ => decA (τ 204) 0 = nI c ∧ decA (τ 206) 0 = nI T) (fun τ τ' y => y = poY (ob (decA (τ 250))) n c T ∧ decA (τ' 206) 0 = nI (poT (ob (decA (τ 250))) n c T) ∧ ∃ F : Nat → Int32, (∀ i, i < 384 → F i = decA (τ 263) i) ∧ ∀ i, i < 384 → decA (τ' 263) i = poW (ob (decA (τ 250))) n c T F i) := by
  intro τ hΦ hP h hh
  have z := all2_cons hh
  clear hh
  obtain ⟨e0, h, rfl, g0, hh⟩ := z
  rcases e0 with ⟨t0, n0, f0⟩ | ⟨ci, fs⟩
  · exact g0.elim
  obtain ⟨rfl, gf⟩ := g0
  have z := all2_cons gf
  clear gf
  obtain ⟨v0, fs, rfl, q0, gf⟩ := z
  cases (q0 : v0 = .inr (some (.inl 1)))
  have z := all2_cons gf
  clear gf
  obtain ⟨v0, fs, rfl, q0, gf⟩ := z
  cases (q0 : v0 = .inr (some (.inl 12)))
  have z := all2_cons gf
  clear gf
  obtain ⟨v0, fs, rfl, q0, gf⟩ := z
  cases (q0 : v0 = .inr (some (.inl 7)))
  have z := all2_cons gf
  clear gf
  obtain ⟨v0, fs, rfl, q0, gf⟩ := z
  cases gT_r (τ := τ) (t := 0) (v := v0) rfl q0
  have z := all2_cons gf
  clear gf
  obtain ⟨v0, fs, rfl, q0, gf⟩ := z
  cases gT_r (τ := τ) (t := 1) (v := v0) rfl q0
  have z := all2_cons gf
  clear gf
  obtain ⟨v0, fs, rfl, q0, gf⟩ := z
  cases gT_r (τ := τ) (t := 2) (v := v0) rfl q0
  have z := all2_cons gf
  clear gf
  obtain ⟨v0, fs, rfl, q0, gf⟩ := z
  cases gT_r (τ := τ) (t := 3) (v := v0) rfl q0
  have z := all2_cons gf
  clear gf
  obtain ⟨v0, fs, rfl, q0, gf⟩ := z
  cases gT_r (τ := τ) (t := 4) (v := v0) rfl q0
  have z := all2_cons gf
  clear gf
  obtain ⟨v0, fs, rfl, q0, gf⟩ := z
  cases gT_r (τ := τ) (t := 5) (v := v0) rfl q0
  have z := all2_cons gf
  clear gf
  obtain ⟨v0, fs, rfl, q0, gf⟩ := z
  cases (q0 : v0 = .inr (some (.inl 3)))
  have z := all2_cons gf
  clear gf
  obtain ⟨v0, fs, rfl, q0, gf⟩ := z
  cases gT_r (τ := τ) (t := 6) (v := v0) rfl q0
  have z := all2_cons gf
  clear gf
  obtain ⟨v0, fs, rfl, q0, gf⟩ := z
  cases gT_r (τ := τ) (t := 7) (v := v0) rfl q0
  have z := all2_cons gf
  clear gf
  obtain ⟨v0, fs, rfl, q0, gf⟩ := z
  cases gT_r (τ := τ) (t := 8) (v := v0) rfl q0
  have z := all2_cons gf
  clear gf
  obtain ⟨v0, fs, rfl, q0, gf⟩ := z
  cases gT_r (τ := τ) (t := 9) (v := v0) rfl q0
  have z := all2_cons gf
  clear gf
  obtain ⟨v0, fs, rfl, q0, gf⟩ := z
  obtain ⟨HS_wasKept, rfl, e_HS_wasKept, b_HS_wasKept⟩ := gT_x (τ := τ) (t := 201) (v := v0) rfl q0
  cases fs with
  | cons _ _ => exact gf.elim
  | nil =>
    have z := all2_cons hh
    clear hh
    obtain ⟨e0, h, rfl, g0, hh⟩ := z
    rcases e0 with ⟨t0, n0, f0⟩ | ⟨ci, fs⟩
    · exact g0.elim
    obtain ⟨rfl, gf⟩ := g0
    have z := all2_cons gf
    clear gf
    obtain ⟨v0, fs, rfl, q0, gf⟩ := z
    cases (q0 : v0 = .inr (some (.inl 2)))
    have z := all2_cons gf
    clear gf
    obtain ⟨v0, fs, rfl, q0, gf⟩ := z
    obtain ⟨Tape_size, rfl, b_Tape_size⟩ := q0
    cases fs with
    | cons _ _ => exact gf.elim
    | nil =>
      have z := all2_cons hh
      clear hh
      obtain ⟨e1, h, rfl, g1, hh⟩ := z
      rcases e1 with ⟨t1, n1, Tape_bytes⟩ | ⟨ci, fs⟩
      rotate_left
      · exact g1.elim
      obtain ⟨et, en, b_Tape_bytes⟩ := g1
      cases (et : t1 = 0)
      cases en
      have z := all2_cons hh
      clear hh
      obtain ⟨e0, h, rfl, g0, hh⟩ := z
      rcases e0 with ⟨t0, n0, f0⟩ | ⟨ci, fs⟩
      · exact g0.elim
      obtain ⟨rfl, gf⟩ := g0
      have z := all2_cons gf
      clear gf
      obtain ⟨v0, fs, rfl, q0, gf⟩ := z
      cases (q0 : v0 = .inr (some (.inl 2)))
      have z := all2_cons gf
      clear gf
      obtain ⟨v0, fs, rfl, q0, gf⟩ := z
      obtain ⟨PR_end, rfl, b_PR_end⟩ := q0
      have z := all2_cons gf
      clear gf
      obtain ⟨v0, fs, rfl, q0, gf⟩ := z
      obtain ⟨PR_at, rfl, b_PR_at⟩ := q0
      have z := all2_cons gf
      clear gf
      obtain ⟨v0, fs, rfl, q0, gf⟩ := z
      obtain ⟨PR_ahead, rfl, b_PR_ahead⟩ := q0
      have z := all2_cons gf
      clear gf
      obtain ⟨v0, fs, rfl, q0, gf⟩ := z
      obtain ⟨PR_fault, rfl, b_PR_fault⟩ := q0
      have z := all2_cons gf
      clear gf
      obtain ⟨v0, fs, rfl, q0, gf⟩ := z
      cases (q0 : v0 = .inr (some (.inl 4)))
      have z := all2_cons gf
      clear gf
      obtain ⟨v0, fs, rfl, q0, gf⟩ := z
      cases (q0 : v0 = .inr (some (.inl 5)))
      have z := all2_cons gf
      clear gf
      obtain ⟨v0, fs, rfl, q0, gf⟩ := z
      cases (q0 : v0 = .inr (some (.inl 6)))
      have z := all2_cons gf
      clear gf
      obtain ⟨v0, fs, rfl, q0, gf⟩ := z
      obtain ⟨PR_lines, rfl, b_PR_lines⟩ := q0
      have z := all2_cons gf
      clear gf
      obtain ⟨v0, fs, rfl, q0, gf⟩ := z
      obtain ⟨PR_told, rfl, b_PR_told⟩ := q0
      have z := all2_cons gf
      clear gf
      obtain ⟨v0, fs, rfl, q0, gf⟩ := z
      obtain ⟨PR_stamps, rfl, b_PR_stamps⟩ := q0
      cases fs with
      | cons _ _ => exact gf.elim
      | nil =>
        have z := all2_cons hh
        clear hh
        obtain ⟨e1, h, rfl, g1, hh⟩ := z
        rcases e1 with ⟨t1, n1, PR_sign⟩ | ⟨ci, fs⟩
        rotate_left
        · exact g1.elim
        obtain ⟨et, en, b_PR_sign⟩ := g1
        cases (et : t1 = 0)
        cases en
        have z := all2_cons hh
        clear hh
        obtain ⟨e1, h, rfl, g1, hh⟩ := z
        rcases e1 with ⟨t1, n1, PR_letter⟩ | ⟨ci, fs⟩
        rotate_left
        · exact g1.elim
        obtain ⟨et, en, b_PR_letter⟩ := g1
        cases (et : t1 = 0)
        cases en
        have z := all2_cons hh
        clear hh
        obtain ⟨e1, h, rfl, g1, hh⟩ := z
        rcases e1 with ⟨t1, n1, PR_number⟩ | ⟨ci, fs⟩
        rotate_left
        · exact g1.elim
        obtain ⟨et, en, b_PR_number⟩ := g1
        cases (et : t1 = 0)
        cases en
        have z := all2_cons hh
        clear hh
        obtain ⟨e0, h, rfl, g0, hh⟩ := z
        rcases e0 with ⟨t0, n0, f0⟩ | ⟨ci, fs⟩
        · exact g0.elim
        obtain ⟨rfl, gf⟩ := g0
        have z := all2_cons gf
        clear gf
        obtain ⟨v0, fs, rfl, q0, gf⟩ := z
        cases (q0 : v0 = .inr (some (.inl 8)))
        have z := all2_cons gf
        clear gf
        obtain ⟨v0, fs, rfl, q0, gf⟩ := z
        cases (q0 : v0 = .inr (some (.inl 9)))
        have z := all2_cons gf
        clear gf
        obtain ⟨v0, fs, rfl, q0, gf⟩ := z
        cases (q0 : v0 = .inr (some (.inl 10)))
        have z := all2_cons gf
        clear gf
        obtain ⟨v0, fs, rfl, q0, gf⟩ := z
        cases (q0 : v0 = .inr (some (.inl 11)))
        have z := all2_cons gf
        clear gf
        obtain ⟨v0, fs, rfl, q0, gf⟩ := z
        obtain ⟨Now_told, rfl, e_Now_told, b_Now_told⟩ := gT_x (τ := τ) (t := 206) (v := v0) rfl q0
        have z := all2_cons gf
        clear gf
        obtain ⟨v0, fs, rfl, q0, gf⟩ := z
        obtain ⟨Now_walled, rfl, b_Now_walled⟩ := q0
        have z := all2_cons gf
        clear gf
        obtain ⟨v0, fs, rfl, q0, gf⟩ := z
        obtain ⟨Now_day, rfl, b_Now_day⟩ := q0
        have z := all2_cons gf
        clear gf
        obtain ⟨v0, fs, rfl, q0, gf⟩ := z
        obtain ⟨Now_drawState, rfl, b_Now_drawState⟩ := q0
        cases fs with
        | cons _ _ => exact gf.elim
        | nil =>
          have z := all2_cons hh
          clear hh
          obtain ⟨e1, h, rfl, g1, hh⟩ := z
          rcases e1 with ⟨t1, n1, Now_place⟩ | ⟨ci, fs⟩
          rotate_left
          · exact g1.elim
          obtain ⟨et, en, b_Now_place⟩ := g1
          cases (et : t1 = 0)
          cases en
          have z := all2_cons hh
          clear hh
          obtain ⟨e1, h, rfl, g1, hh⟩ := z
          rcases e1 with ⟨t1, n1, Now_paste⟩ | ⟨ci, fs⟩
          rotate_left
          · exact g1.elim
          obtain ⟨et, en, b_Now_paste⟩ := g1
          cases (et : t1 = 0)
          cases en
          have z := all2_cons hh
          clear hh
          obtain ⟨e1, h, rfl, g1, hh⟩ := z
          rcases e1 with ⟨t1, n1, Now_letter⟩ | ⟨ci, fs⟩
          rotate_left
          · exact g1.elim
          obtain ⟨et, en, b_Now_letter⟩ := g1
          cases (et : t1 = 0)
          cases en
          have z := all2_cons hh
          clear hh
          obtain ⟨e1, h, rfl, g1, hh⟩ := z
          rcases e1 with ⟨t1, n1, Now_used⟩ | ⟨ci, fs⟩
          rotate_left
          · exact g1.elim
          obtain ⟨et, en, b_Now_used⟩ := g1
          cases (et : t1 = 0)
          cases en
          have z := all2_cons hh
          clear hh
          obtain ⟨e0, h, rfl, g0, hh⟩ := z
          rcases e0 with ⟨t0, n0, f0⟩ | ⟨ci, fs⟩
          · exact g0.elim
          obtain ⟨rfl, gf⟩ := g0
          have z := all2_cons gf
          clear gf
          obtain ⟨v0, fs, rfl, q0, gf⟩ := z
          cases (q0 : v0 = .inr (some (.inl 13)))
          have z := all2_cons gf
          clear gf
          obtain ⟨v0, fs, rfl, q0, gf⟩ := z
          cases (q0 : v0 = .inr (some (.inl 14)))
          have z := all2_cons gf
          clear gf
          obtain ⟨v0, fs, rfl, q0, gf⟩ := z
          cases (q0 : v0 = .inr (some (.inl 15)))
          have z := all2_cons gf
          clear gf
          obtain ⟨v0, fs, rfl, q0, gf⟩ := z
          cases (q0 : v0 = .inr (some (.inl 16)))
          have z := all2_cons gf
          clear gf
          obtain ⟨v0, fs, rfl, q0, gf⟩ := z
          cases (q0 : v0 = .inr (some (.inl 17)))
          have z := all2_cons gf
          clear gf
          obtain ⟨v0, fs, rfl, q0, gf⟩ := z
          obtain ⟨Rep_toldMints, rfl, e_Rep_toldMints, b_Rep_toldMints⟩ := gT_x (τ := τ) (t := 203) (v := v0) rfl q0
          have z := all2_cons gf
          clear gf
          obtain ⟨v0, fs, rfl, q0, gf⟩ := z
          obtain ⟨Rep_walls, rfl, b_Rep_walls⟩ := q0
          have z := all2_cons gf
          clear gf
          obtain ⟨v0, fs, rfl, q0, gf⟩ := z
          obtain ⟨Rep_stamps, rfl, e_Rep_stamps, b_Rep_stamps⟩ := gT_x (τ := τ) (t := 204) (v := v0) rfl q0
          cases fs with
          | cons _ _ => exact gf.elim
          | nil =>
            have z := all2_cons hh
            clear hh
            obtain ⟨e1, h, rfl, g1, hh⟩ := z
            rcases e1 with ⟨t1, n1, Rep_mintX⟩ | ⟨ci, fs⟩
            rotate_left
            · exact g1.elim
            obtain ⟨et, en, b_Rep_mintX⟩ := g1
            cases (et : t1 = 0)
            cases en
            have z := all2_cons hh
            clear hh
            obtain ⟨e1, h, rfl, g1, hh⟩ := z
            rcases e1 with ⟨t1, n1, Rep_mintY⟩ | ⟨ci, fs⟩
            rotate_left
            · exact g1.elim
            obtain ⟨et, en, b_Rep_mintY⟩ := g1
            cases (et : t1 = 0)
            cases en
            have z := all2_cons hh
            clear hh
            obtain ⟨e1, h, rfl, g1, hh⟩ := z
            rcases e1 with ⟨t1, n1, Rep_wall⟩ | ⟨ci, fs⟩
            rotate_left
            · exact g1.elim
            obtain ⟨et, en, b_Rep_wall⟩ := g1
            cases (et : t1 = 2)
            cases en
            have z := all2_cons hh
            clear hh
            obtain ⟨e1, h, rfl, g1, hh⟩ := z
            rcases e1 with ⟨t1, n1, Rep_mintOf⟩ | ⟨ci, fs⟩
            rotate_left
            · exact g1.elim
            obtain ⟨et, en, b_Rep_mintOf⟩ := g1
            cases (et : t1 = 0)
            cases en
            have z := all2_cons hh
            clear hh
            obtain ⟨e1, h, rfl, g1, hh⟩ := z
            rcases e1 with ⟨t1, n1, Rep_grainsOf⟩ | ⟨ci, fs⟩
            rotate_left
            · exact g1.elim
            obtain ⟨et, en, b_Rep_grainsOf⟩ := g1
            cases (et : t1 = 0)
            cases en
            cases h with
            | cons _ _ => exact hh.elim
            | nil =>
              obtain ⟨s, hs, rfl⟩ := rng_n (x := Tape_size) (k := 260) (by omega) b_Tape_size.2
              have es := sz_n (c := s) (by omega)
              obtain ⟨rF, eF⟩ := rg_x rfl b_Tape_bytes
              obtain ⟨w1, w2⟩ := hP
              obtain rfl : Rep_stamps = nI c := e_Rep_stamps.trans w1
              obtain rfl : Now_told = nI T := e_Now_told.trans w2
              obtain ⟨rW, eW⟩ := rg_x rfl b_Rep_wall
              refine (c_X11_post (o := ob (decA (τ 250))) (n := n) (s := s) (c := c) (T := T) h1.1 (by omega) hs (by omega) hc (fun i hi => ob_ok (by omega) (eF i (by omega)) (rF i (by omega)))).mono (fun r h' hp => ?_)
              obtain ⟨at_, ah, fa, td, wd, ws, k, sg, lt, nu, pl, pa, le, us, hk, rfl, rfl⟩ := hp
              exact ⟨upL (upL τ 263 (encA (poW (ob (decA (τ 250))) n c T Rep_wall) 384)) 206 [some (natOf (nI (poT (ob (decA (τ 250))) n c T)))], _, hΦ, fun t ht => (upL_ne (ch_w ht rfl rfl).1).trans (upL_ne (ch_w ht rfl rfl).2), rfl, ⟨rfl, natOf_ok _, Rep_wall, eW, fun i hi => encA_ok hi⟩, ⟨⟨rfl, rfl, rfl, rfl, rfl, rfl, rfl, rfl, rfl, rfl, rfl, rfl, rfl, rfl, rfl, gT_mk rfl e_HS_wasKept b_HS_wasKept, trivial⟩, ⟨rfl, rfl, ⟨0, rfl, by decide, by decide⟩, trivial⟩, ⟨rfl, rfl, b_Tape_bytes⟩, ⟨rfl, rfl, topA_ok _, topA_ok _, topA_ok _, topA_ok _, rfl, rfl, rfl, ⟨_, rfl, nr20 hk⟩, topA_ok _, topA_ok _, trivial⟩, ⟨rfl, rfl, of_rg rg_top⟩, ⟨rfl, rfl, of_rg rg_top⟩, ⟨rfl, rfl, of_rg rg_top⟩, ⟨rfl, rfl, rfl, rfl, rfl, gT_mk (t := 206) rfl (natOf_ok _).symm ⟨i32lo _, i32hi _⟩, topA_ok _, ⟨_, rfl, b_Now_day⟩, ⟨_, rfl, b_Now_drawState⟩, trivial⟩, ⟨rfl, rfl, of_rg rg_top⟩, ⟨rfl, rfl, of_rg rg_top⟩, ⟨rfl, rfl, of_rg rg_top⟩, ⟨rfl, rfl, of_rg rg_top⟩, ⟨rfl, rfl, rfl, rfl, rfl, rfl, gT_mk rfl e_Rep_toldMints b_Rep_toldMints, topA_ok _, gT_mk rfl e_Rep_stamps b_Rep_stamps, trivial⟩, ⟨rfl, rfl, b_Rep_mintX⟩, ⟨rfl, rfl, b_Rep_mintY⟩, ⟨rfl, rfl, of_x rfl (rg_po rW) (fun i hi => (encA_ok hi).symm)⟩, ⟨rfl, rfl, b_Rep_mintOf⟩, ⟨rfl, rfl, b_Rep_grainsOf⟩, trivial⟩⟩

def HX_post60R : List AC := [.inr (11, [.inr (.inr (some (.inl 1))), .inr (.inr (some (.inl 2))), .inr (.inr (some (.inr 0))), .inr (.inr (some (.inr 1))), .inr (.inr (some (.inr 2))), .inr (.inr (some (.inr 3))), .inr (.inr (some (.inl 3))), .inr (.inr (some (.inl 4))), .inr (.inr (some (.inr 205))), .inr (.inr (some (.inl 5))), .inl (60, 260), .inl (0, 240), .inl (0, 240), .inl (-2147483648, 2147483647), .inl (-2147483648, 2147483647), .inl (-2147483648, 2147483647), .inl (0, 260), .inl (0, 260), .inl (0, 16), .inr (.inr (some (.inr 200))), .inr (.inr (some (.inr 4))), .inr (.inr (some (.inr 5))), .inr (.inr (some (.inr 6))), .inr (.inr (some (.inr 7))), .inr (.inr (some (.inr 8))), .inr (.inr (some (.inr 9))), .inr (.inr (some (.inr 10))), .inr (.inr (some (.inr 11))), .inr (.inr (some (.inr 12))), .inr (.inr (some (.inr 13))), .inr (.inr (some (.inr 14))), .inr (.inr (some (.inr 15))), .inr (.inr (some (.inr 16))), .inr (.inr (some (.inr 17))), .inr (.inr (some (.inr 18))), .inr (.inr (some (.inr 19))), .inr (.inr (some (.inr 20))), .inl (-2147483648, 2147483647), .inl (-2147483648, 2147483647), .inl (-2147483648, 2147483647), .inl (-2147483648, 2147483647), .inl (-2147483648, 2147483647), .inl (-2147483648, 2147483647), .inl (-2147483648, 2147483647), .inl (-2147483648, 2147483647), .inl (-2147483648, 2147483647), .inl (-2147483648, 2147483647), .inr (.inr (some (.inr 21))), .inr (.inr (some (.inr 22))), .inr (.inr (some (.inr 23))), .inr (.inr (some (.inr 24))), .inr (.inr (some (.inr 25))), .inr (.inr (some (.inr 201)))]), .inl (600, 130, 0, 383), .inl (3, 130, 0, 383), .inl (1058, 384, 0, 1), .inl (2, 384, 0, 1), .inl (1005, 260, -128, 127)]
def HY_post60R : List AC := hc_c75a9ccc1a
set_option maxRecDepth 100000 in
theorem x_post60R {l : Launch} {n c T : Nat} (h1 : 1 ≤ n ∧ n ≤ 60) (hc : c ≤ 48) : conOkX (MetP l 6 yX12_post cX12_post 4 (some .int) 0 0) [nI n] HX_post60R HY_post60R (fun t => Nat.beq t 208 || Nat.beq t 264) (fun τ => decA (τ 205) 0 = nI c ∧ tdM (decA (τ 208)) T) (fun τ τ' y => y = poY (ob (fun i => f_and (decA (τ 251) i) 255)) n c T ∧ tdM (decA (τ' 208)) (poT (ob (fun i => f_and (decA (τ 251) i) 255)) n c T) ∧ ∃ F : Nat → Int32, (∀ i, i < 384 → F i = decA (τ 264) i) ∧ ∀ i, i < 384 → decA (τ' 264) i = poW (ob (fun i => f_and (decA (τ 251) i) 255)) n c T F i) := by
  intro τ hΦ hP h hh
  have z := all2_cons hh
  clear hh
  obtain ⟨e0, h, rfl, g0, hh⟩ := z
  rcases e0 with ⟨t0, n0, f0⟩ | ⟨ci, fs⟩
  · exact g0.elim
  obtain ⟨rfl, gf⟩ := g0
  have z := all2_cons gf
  clear gf
  obtain ⟨v0, fs, rfl, q0, gf⟩ := z
  cases (q0 : v0 = .inr (some (.inl 1)))
  have z := all2_cons gf
  clear gf
  obtain ⟨v0, fs, rfl, q0, gf⟩ := z
  cases (q0 : v0 = .inr (some (.inl 2)))
  have z := all2_cons gf
  clear gf
  obtain ⟨v0, fs, rfl, q0, gf⟩ := z
  cases gT_r (τ := τ) (t := 0) (v := v0) rfl q0
  have z := all2_cons gf
  clear gf
  obtain ⟨v0, fs, rfl, q0, gf⟩ := z
  cases gT_r (τ := τ) (t := 1) (v := v0) rfl q0
  have z := all2_cons gf
  clear gf
  obtain ⟨v0, fs, rfl, q0, gf⟩ := z
  cases gT_r (τ := τ) (t := 2) (v := v0) rfl q0
  have z := all2_cons gf
  clear gf
  obtain ⟨v0, fs, rfl, q0, gf⟩ := z
  cases gT_r (τ := τ) (t := 3) (v := v0) rfl q0
  have z := all2_cons gf
  clear gf
  obtain ⟨v0, fs, rfl, q0, gf⟩ := z
  cases (q0 : v0 = .inr (some (.inl 3)))
  have z := all2_cons gf
  clear gf
  obtain ⟨v0, fs, rfl, q0, gf⟩ := z
  cases (q0 : v0 = .inr (some (.inl 4)))
  have z := all2_cons gf
  clear gf
  obtain ⟨v0, fs, rfl, q0, gf⟩ := z
  obtain ⟨M_stampMany, rfl, e_M_stampMany, b_M_stampMany⟩ := gT_x (τ := τ) (t := 205) (v := v0) rfl q0
  have z := all2_cons gf
  clear gf
  obtain ⟨v0, fs, rfl, q0, gf⟩ := z
  cases (q0 : v0 = .inr (some (.inl 5)))
  have z := all2_cons gf
  clear gf
  obtain ⟨v0, fs, rfl, q0, gf⟩ := z
  obtain ⟨M_taped, rfl, b_M_taped⟩ := q0
  have z := all2_cons gf
  clear gf
  obtain ⟨v0, fs, rfl, q0, gf⟩ := z
  obtain ⟨M_place0, rfl, b_M_place0⟩ := q0
  have z := all2_cons gf
  clear gf
  obtain ⟨v0, fs, rfl, q0, gf⟩ := z
  obtain ⟨M_length0, rfl, b_M_length0⟩ := q0
  have z := all2_cons gf
  clear gf
  obtain ⟨v0, fs, rfl, q0, gf⟩ := z
  obtain ⟨M_fault, rfl, b_M_fault⟩ := q0
  have z := all2_cons gf
  clear gf
  obtain ⟨v0, fs, rfl, q0, gf⟩ := z
  obtain ⟨M_number0, rfl, b_M_number0⟩ := q0
  have z := all2_cons gf
  clear gf
  obtain ⟨v0, fs, rfl, q0, gf⟩ := z
  obtain ⟨M_open, rfl, b_M_open⟩ := q0
  have z := all2_cons gf
  clear gf
  obtain ⟨v0, fs, rfl, q0, gf⟩ := z
  obtain ⟨M_codeMany, rfl, b_M_codeMany⟩ := q0
  have z := all2_cons gf
  clear gf
  obtain ⟨v0, fs, rfl, q0, gf⟩ := z
  obtain ⟨M_waiting, rfl, b_M_waiting⟩ := q0
  have z := all2_cons gf
  clear gf
  obtain ⟨v0, fs, rfl, q0, gf⟩ := z
  obtain ⟨M_saidMany, rfl, b_M_saidMany⟩ := q0
  have z := all2_cons gf
  clear gf
  obtain ⟨v0, fs, rfl, q0, gf⟩ := z
  obtain ⟨M_clauses, rfl, e_M_clauses, b_M_clauses⟩ := gT_x (τ := τ) (t := 200) (v := v0) rfl q0
  have z := all2_cons gf
  clear gf
  obtain ⟨v0, fs, rfl, q0, gf⟩ := z
  cases gT_r (τ := τ) (t := 4) (v := v0) rfl q0
  have z := all2_cons gf
  clear gf
  obtain ⟨v0, fs, rfl, q0, gf⟩ := z
  cases gT_r (τ := τ) (t := 5) (v := v0) rfl q0
  have z := all2_cons gf
  clear gf
  obtain ⟨v0, fs, rfl, q0, gf⟩ := z
  cases gT_r (τ := τ) (t := 6) (v := v0) rfl q0
  have z := all2_cons gf
  clear gf
  obtain ⟨v0, fs, rfl, q0, gf⟩ := z
  cases gT_r (τ := τ) (t := 7) (v := v0) rfl q0
  have z := all2_cons gf
  clear gf
  obtain ⟨v0, fs, rfl, q0, gf⟩ := z
  cases gT_r (τ := τ) (t := 8) (v := v0) rfl q0
  have z := all2_cons gf
  clear gf
  obtain ⟨v0, fs, rfl, q0, gf⟩ := z
  cases gT_r (τ := τ) (t := 9) (v := v0) rfl q0
  have z := all2_cons gf
  clear gf
  obtain ⟨v0, fs, rfl, q0, gf⟩ := z
  cases gT_r (τ := τ) (t := 10) (v := v0) rfl q0
  have z := all2_cons gf
  clear gf
  obtain ⟨v0, fs, rfl, q0, gf⟩ := z
  cases gT_r (τ := τ) (t := 11) (v := v0) rfl q0
  have z := all2_cons gf
  clear gf
  obtain ⟨v0, fs, rfl, q0, gf⟩ := z
  cases gT_r (τ := τ) (t := 12) (v := v0) rfl q0
  have z := all2_cons gf
  clear gf
  obtain ⟨v0, fs, rfl, q0, gf⟩ := z
  cases gT_r (τ := τ) (t := 13) (v := v0) rfl q0
  have z := all2_cons gf
  clear gf
  obtain ⟨v0, fs, rfl, q0, gf⟩ := z
  cases gT_r (τ := τ) (t := 14) (v := v0) rfl q0
  have z := all2_cons gf
  clear gf
  obtain ⟨v0, fs, rfl, q0, gf⟩ := z
  cases gT_r (τ := τ) (t := 15) (v := v0) rfl q0
  have z := all2_cons gf
  clear gf
  obtain ⟨v0, fs, rfl, q0, gf⟩ := z
  cases gT_r (τ := τ) (t := 16) (v := v0) rfl q0
  have z := all2_cons gf
  clear gf
  obtain ⟨v0, fs, rfl, q0, gf⟩ := z
  cases gT_r (τ := τ) (t := 17) (v := v0) rfl q0
  have z := all2_cons gf
  clear gf
  obtain ⟨v0, fs, rfl, q0, gf⟩ := z
  cases gT_r (τ := τ) (t := 18) (v := v0) rfl q0
  have z := all2_cons gf
  clear gf
  obtain ⟨v0, fs, rfl, q0, gf⟩ := z
  cases gT_r (τ := τ) (t := 19) (v := v0) rfl q0
  have z := all2_cons gf
  clear gf
  obtain ⟨v0, fs, rfl, q0, gf⟩ := z
  cases gT_r (τ := τ) (t := 20) (v := v0) rfl q0
  have z := all2_cons gf
  clear gf
  obtain ⟨v0, fs, rfl, q0, gf⟩ := z
  obtain ⟨M_newMany, rfl, b_M_newMany⟩ := q0
  have z := all2_cons gf
  clear gf
  obtain ⟨v0, fs, rfl, q0, gf⟩ := z
  obtain ⟨M_rounds, rfl, b_M_rounds⟩ := q0
  have z := all2_cons gf
  clear gf
  obtain ⟨v0, fs, rfl, q0, gf⟩ := z
  obtain ⟨M_stampFrom, rfl, b_M_stampFrom⟩ := q0
  have z := all2_cons gf
  clear gf
  obtain ⟨v0, fs, rfl, q0, gf⟩ := z
  obtain ⟨M_stampTimes, rfl, b_M_stampTimes⟩ := q0
  have z := all2_cons gf
  clear gf
  obtain ⟨v0, fs, rfl, q0, gf⟩ := z
  obtain ⟨M_lines, rfl, b_M_lines⟩ := q0
  have z := all2_cons gf
  clear gf
  obtain ⟨v0, fs, rfl, q0, gf⟩ := z
  obtain ⟨M_spot0, rfl, b_M_spot0⟩ := q0
  have z := all2_cons gf
  clear gf
  obtain ⟨v0, fs, rfl, q0, gf⟩ := z
  obtain ⟨M_pullAcross, rfl, b_M_pullAcross⟩ := q0
  have z := all2_cons gf
  clear gf
  obtain ⟨v0, fs, rfl, q0, gf⟩ := z
  obtain ⟨M_pullAlong, rfl, b_M_pullAlong⟩ := q0
  have z := all2_cons gf
  clear gf
  obtain ⟨v0, fs, rfl, q0, gf⟩ := z
  obtain ⟨M_stepsNow, rfl, b_M_stepsNow⟩ := q0
  have z := all2_cons gf
  clear gf
  obtain ⟨v0, fs, rfl, q0, gf⟩ := z
  obtain ⟨M_fallenNow, rfl, b_M_fallenNow⟩ := q0
  have z := all2_cons gf
  clear gf
  obtain ⟨v0, fs, rfl, q0, gf⟩ := z
  cases gT_r (τ := τ) (t := 21) (v := v0) rfl q0
  have z := all2_cons gf
  clear gf
  obtain ⟨v0, fs, rfl, q0, gf⟩ := z
  cases gT_r (τ := τ) (t := 22) (v := v0) rfl q0
  have z := all2_cons gf
  clear gf
  obtain ⟨v0, fs, rfl, q0, gf⟩ := z
  cases gT_r (τ := τ) (t := 23) (v := v0) rfl q0
  have z := all2_cons gf
  clear gf
  obtain ⟨v0, fs, rfl, q0, gf⟩ := z
  cases gT_r (τ := τ) (t := 24) (v := v0) rfl q0
  have z := all2_cons gf
  clear gf
  obtain ⟨v0, fs, rfl, q0, gf⟩ := z
  cases gT_r (τ := τ) (t := 25) (v := v0) rfl q0
  have z := all2_cons gf
  clear gf
  obtain ⟨v0, fs, rfl, q0, gf⟩ := z
  obtain ⟨M_isKept, rfl, e_M_isKept, b_M_isKept⟩ := gT_x (τ := τ) (t := 201) (v := v0) rfl q0
  cases fs with
  | cons _ _ => exact gf.elim
  | nil =>
    have z := all2_cons hh
    clear hh
    obtain ⟨e1, h, rfl, g1, hh⟩ := z
    rcases e1 with ⟨t1, n1, M_now⟩ | ⟨ci, fs⟩
    rotate_left
    · exact g1.elim
    obtain ⟨et, en, b_M_now⟩ := g1
    cases (et : t1 = 0)
    cases en
    have z := all2_cons hh
    clear hh
    obtain ⟨e1, h, rfl, g1, hh⟩ := z
    rcases e1 with ⟨t1, n1, M_aside⟩ | ⟨ci, fs⟩
    rotate_left
    · exact g1.elim
    obtain ⟨et, en, b_M_aside⟩ := g1
    cases (et : t1 = 0)
    cases en
    have z := all2_cons hh
    clear hh
    obtain ⟨e1, h, rfl, g1, hh⟩ := z
    rcases e1 with ⟨t1, n1, M_isWall⟩ | ⟨ci, fs⟩
    rotate_left
    · exact g1.elim
    obtain ⟨et, en, b_M_isWall⟩ := g1
    cases (et : t1 = 2)
    cases en
    have z := all2_cons hh
    clear hh
    obtain ⟨e1, h, rfl, g1, hh⟩ := z
    rcases e1 with ⟨t1, n1, M_wasWall⟩ | ⟨ci, fs⟩
    rotate_left
    · exact g1.elim
    obtain ⟨et, en, b_M_wasWall⟩ := g1
    cases (et : t1 = 2)
    cases en
    have z := all2_cons hh
    clear hh
    obtain ⟨e1, h, rfl, g1, hh⟩ := z
    rcases e1 with ⟨t1, n1, M_tape⟩ | ⟨ci, fs⟩
    rotate_left
    · exact g1.elim
    obtain ⟨et, en, b_M_tape⟩ := g1
    cases (et : t1 = 1)
    cases en
    cases h with
    | cons _ _ => exact hh.elim
    | nil =>
      obtain ⟨s, hs, rfl⟩ := rng_n (x := M_taped) (k := 260) (by omega) b_M_taped.2
      have es := sz_n (c := s) (by omega)
      obtain ⟨rF, eF⟩ := rg_x rfl b_M_tape
      obtain ⟨w1, w2⟩ := hP
      obtain rfl : M_stampMany = nI c := e_M_stampMany.trans w1
      have sg := seg6_of (t := 600) rfl rfl b_M_now
      obtain ⟨rW, eW⟩ := rg_x rfl b_M_isWall
      refine (x_X12_post (b := ob (fun i => f_and (decA (τ 251) i) 255)) (n := n) (s := s) (c := c) (T := T) h1.1 (by omega) hs (by omega) hc (fun i hi => ob_ok (f := fun i => f_and (decA (τ 251) i) 255) (F := fun i => f_and (M_tape i) 255) (by omega) (by show f_and (M_tape i) 255 = f_and (decA (τ 251) i) 255; rw [eF i (by omega)]) oct_rng) (fun i hi => (sg.2 i hi).trans (w2 i hi)) sg.1 rW (rg_of2 b_M_wasWall)).mono (fun r h' hp => ?_)
      obtain ⟨nw, as, wl, ww, pp, f, w, sp, ln, rfl, kT, kW, k1, k2, k3, k4, k5, rfl⟩ := hp
      exact ⟨upL (upL τ 264 (encA wl 384)) 208 (encA nw 8), _, hΦ, fun t ht => (upL_ne (ch_w ht rfl rfl).1).trans (upL_ne (ch_w ht rfl rfl).2), rfl, ⟨rfl, fun i hi => (encA_ok hi).trans (kT i hi), M_isWall, eW, fun i hi => (encA_ok hi).trans (kW i hi)⟩, ⟨⟨rfl, rfl, rfl, rfl, rfl, rfl, rfl, rfl, rfl, gT_mk rfl e_M_stampMany b_M_stampMany, rfl, ⟨0, rfl, by decide, by decide⟩, ⟨_, rfl, k5⟩, ⟨_, rfl, nr240 (by omega)⟩, topA_ok _, topA_ok _, ⟨_, rfl, b_M_open⟩, ⟨0, rfl, by decide, by decide⟩, ⟨_, rfl, b_M_waiting⟩, ⟨0, rfl, by decide, by decide⟩, gT_mk rfl e_M_clauses b_M_clauses, rfl, rfl, rfl, rfl, rfl, rfl, rfl, rfl, rfl, rfl, rfl, rfl, rfl, rfl, rfl, rfl, rfl, ⟨_, rfl, b_M_newMany⟩, ⟨_, rfl, b_M_rounds⟩, ⟨_, rfl, b_M_stampFrom⟩, ⟨_, rfl, b_M_stampTimes⟩, topA_ok _, topA_ok _, ⟨_, rfl, b_M_pullAcross⟩, ⟨_, rfl, b_M_pullAlong⟩, ⟨_, rfl, b_M_stepsNow⟩, ⟨_, rfl, b_M_fallenNow⟩, rfl, rfl, rfl, rfl, rfl, gT_mk rfl e_M_isKept b_M_isKept, trivial⟩, ⟨rfl, rfl, of_seg6 ⟨k1, fun i hi => (encA_ok hi).symm⟩⟩, ⟨rfl, rfl, of_seg k2⟩, ⟨rfl, rfl, of_x rfl k3 (fun i hi => (encA_ok hi).symm)⟩, ⟨rfl, rfl, of_rg2 k4⟩, ⟨rfl, rfl, b_M_tape⟩, trivial⟩⟩

def HX_post80C : List AC := [.inr (10, [.inr (.inr (some (.inl 1))), .inr (.inr (some (.inl 12))), .inr (.inr (some (.inl 7))), .inr (.inr (some (.inr 0))), .inr (.inr (some (.inr 1))), .inr (.inr (some (.inr 2))), .inr (.inr (some (.inr 3))), .inr (.inr (some (.inr 4))), .inr (.inr (some (.inr 5))), .inr (.inr (some (.inl 3))), .inr (.inr (some (.inr 6))), .inr (.inr (some (.inr 7))), .inr (.inr (some (.inr 8))), .inr (.inr (some (.inr 9))), .inr (.inr (some (.inr 201)))]), .inr (9, [.inr (.inr (some (.inl 2))), .inl (80, 260)]), .inl (1000, 260, 0, 255), .inr (5, [.inr (.inr (some (.inl 2))), .inl (-2147483648, 2147483647), .inl (-2147483648, 2147483647), .inl (-2147483648, 2147483647), .inl (-2147483648, 2147483647), .inr (.inr (some (.inl 4))), .inr (.inr (some (.inl 5))), .inr (.inr (some (.inl 6))), .inl (0, 20), .inl (-2147483648, 2147483647), .inl (-2147483648, 2147483647)]), .inl (0, 20, -2147483648, 2147483647), .inl (0, 20, -2147483648, 2147483647), .inl (0, 20, -2147483648, 2147483647), .inr (4, [.inr (.inr (some (.inl 8))), .inr (.inr (some (.inl 9))), .inr (.inr (some (.inl 10))), .inr (.inr (some (.inl 11))), .inr (.inr (some (.inr 206))), .inl (-2147483648, 2147483647), .inl (-2147483648, 2147483647), .inl (-2147483648, 2147483647)]), .inl (0, 8, -2147483648, 2147483647), .inl (0, 8, -2147483648, 2147483647), .inl (0, 48, -2147483648, 2147483647), .inl (0, 48, -2147483648, 2147483647), .inr (6, [.inr (.inr (some (.inl 13))), .inr (.inr (some (.inl 14))), .inr (.inr (some (.inl 15))), .inr (.inr (some (.inl 16))), .inr (.inr (some (.inl 17))), .inr (.inr (some (.inr 203))), .inl (-2147483648, 2147483647), .inr (.inr (some (.inr 204)))]), .inl (1008, 8, -2147483648, 2147483647), .inl (1012, 8, -2147483648, 2147483647), .inl (1054, 384, 0, 1), .inl (1020, 48, -2147483648, 2147483647), .inl (1024, 48, -2147483648, 2147483647)]
def HY_post80C : List AC := hc_8b88427f46
set_option maxRecDepth 100000 in
theorem x_post80C {l : Launch} {n c T : Nat} (h1 : 1 ≤ n ∧ n ≤ 80) (hc : c ≤ 48) : conOkX (MetP l 6 yX11_post cX11_post 3 (some .int) 0 0) [nI n] HX_post80C HY_post80C (fun t => Nat.beq t 206 || Nat.beq t 263) (fun τ => decA (τ 204) 0 = nI c ∧ decA (τ 206) 0 = nI T) (fun τ τ' y => y = poY (ob (decA (τ 250))) n c T ∧ decA (τ' 206) 0 = nI (poT (ob (decA (τ 250))) n c T) ∧ ∃ F : Nat → Int32, (∀ i, i < 384 → F i = decA (τ 263) i) ∧ ∀ i, i < 384 → decA (τ' 263) i = poW (ob (decA (τ 250))) n c T F i) := by
  intro τ hΦ hP h hh
  have z := all2_cons hh
  clear hh
  obtain ⟨e0, h, rfl, g0, hh⟩ := z
  rcases e0 with ⟨t0, n0, f0⟩ | ⟨ci, fs⟩
  · exact g0.elim
  obtain ⟨rfl, gf⟩ := g0
  have z := all2_cons gf
  clear gf
  obtain ⟨v0, fs, rfl, q0, gf⟩ := z
  cases (q0 : v0 = .inr (some (.inl 1)))
  have z := all2_cons gf
  clear gf
  obtain ⟨v0, fs, rfl, q0, gf⟩ := z
  cases (q0 : v0 = .inr (some (.inl 12)))
  have z := all2_cons gf
  clear gf
  obtain ⟨v0, fs, rfl, q0, gf⟩ := z
  cases (q0 : v0 = .inr (some (.inl 7)))
  have z := all2_cons gf
  clear gf
  obtain ⟨v0, fs, rfl, q0, gf⟩ := z
  cases gT_r (τ := τ) (t := 0) (v := v0) rfl q0
  have z := all2_cons gf
  clear gf
  obtain ⟨v0, fs, rfl, q0, gf⟩ := z
  cases gT_r (τ := τ) (t := 1) (v := v0) rfl q0
  have z := all2_cons gf
  clear gf
  obtain ⟨v0, fs, rfl, q0, gf⟩ := z
  cases gT_r (τ := τ) (t := 2) (v := v0) rfl q0
  have z := all2_cons gf
  clear gf
  obtain ⟨v0, fs, rfl, q0, gf⟩ := z
  cases gT_r (τ := τ) (t := 3) (v := v0) rfl q0
  have z := all2_cons gf
  clear gf
  obtain ⟨v0, fs, rfl, q0, gf⟩ := z
  cases gT_r (τ := τ) (t := 4) (v := v0) rfl q0
  have z := all2_cons gf
  clear gf
  obtain ⟨v0, fs, rfl, q0, gf⟩ := z
  cases gT_r (τ := τ) (t := 5) (v := v0) rfl q0
  have z := all2_cons gf
  clear gf
  obtain ⟨v0, fs, rfl, q0, gf⟩ := z
  cases (q0 : v0 = .inr (some (.inl 3)))
  have z := all2_cons gf
  clear gf
  obtain ⟨v0, fs, rfl, q0, gf⟩ := z
  cases gT_r (τ := τ) (t := 6) (v := v0) rfl q0
  have z := all2_cons gf
  clear gf
  obtain ⟨v0, fs, rfl, q0, gf⟩ := z
  cases gT_r (τ := τ) (t := 7) (v := v0) rfl q0
  have z := all2_cons gf
  clear gf
  obtain ⟨v0, fs, rfl, q0, gf⟩ := z
  cases gT_r (τ := τ) (t := 8) (v := v0) rfl q0
  have z := all2_cons gf
  clear gf
  obtain ⟨v0, fs, rfl, q0, gf⟩ := z
  cases gT_r (τ := τ) (t := 9) (v := v0) rfl q0
  have z := all2_cons gf
  clear gf
  obtain ⟨v0, fs, rfl, q0, gf⟩ := z
  obtain ⟨HS_wasKept, rfl, e_HS_wasKept, b_HS_wasKept⟩ := gT_x (τ := τ) (t := 201) (v := v0) rfl q0
  cases fs with
  | cons _ _ => exact gf.elim
  | nil =>
    have z := all2_cons hh
    clear hh
    obtain ⟨e0, h, rfl, g0, hh⟩ := z
    rcases e0 with ⟨t0, n0, f0⟩ | ⟨ci, fs⟩
    · exact g0.elim
    obtain ⟨rfl, gf⟩ := g0
    have z := all2_cons gf
    clear gf
    obtain ⟨v0, fs, rfl, q0, gf⟩ := z
    cases (q0 : v0 = .inr (some (.inl 2)))
    have z := all2_cons gf
    clear gf
    obtain ⟨v0, fs, rfl, q0, gf⟩ := z
    obtain ⟨Tape_size, rfl, b_Tape_size⟩ := q0
    cases fs with
    | cons _ _ => exact gf.elim
    | nil =>
      have z := all2_cons hh
      clear hh
      obtain ⟨e1, h, rfl, g1, hh⟩ := z
      rcases e1 with ⟨t1, n1, Tape_bytes⟩ | ⟨ci, fs⟩
      rotate_left
      · exact g1.elim
      obtain ⟨et, en, b_Tape_bytes⟩ := g1
      cases (et : t1 = 0)
      cases en
      have z := all2_cons hh
      clear hh
      obtain ⟨e0, h, rfl, g0, hh⟩ := z
      rcases e0 with ⟨t0, n0, f0⟩ | ⟨ci, fs⟩
      · exact g0.elim
      obtain ⟨rfl, gf⟩ := g0
      have z := all2_cons gf
      clear gf
      obtain ⟨v0, fs, rfl, q0, gf⟩ := z
      cases (q0 : v0 = .inr (some (.inl 2)))
      have z := all2_cons gf
      clear gf
      obtain ⟨v0, fs, rfl, q0, gf⟩ := z
      obtain ⟨PR_end, rfl, b_PR_end⟩ := q0
      have z := all2_cons gf
      clear gf
      obtain ⟨v0, fs, rfl, q0, gf⟩ := z
      obtain ⟨PR_at, rfl, b_PR_at⟩ := q0
      have z := all2_cons gf
      clear gf
      obtain ⟨v0, fs, rfl, q0, gf⟩ := z
      obtain ⟨PR_ahead, rfl, b_PR_ahead⟩ := q0
      have z := all2_cons gf
      clear gf
      obtain ⟨v0, fs, rfl, q0, gf⟩ := z
      obtain ⟨PR_fault, rfl, b_PR_fault⟩ := q0
      have z := all2_cons gf
      clear gf
      obtain ⟨v0, fs, rfl, q0, gf⟩ := z
      cases (q0 : v0 = .inr (some (.inl 4)))
      have z := all2_cons gf
      clear gf
      obtain ⟨v0, fs, rfl, q0, gf⟩ := z
      cases (q0 : v0 = .inr (some (.inl 5)))
      have z := all2_cons gf
      clear gf
      obtain ⟨v0, fs, rfl, q0, gf⟩ := z
      cases (q0 : v0 = .inr (some (.inl 6)))
      have z := all2_cons gf
      clear gf
      obtain ⟨v0, fs, rfl, q0, gf⟩ := z
      obtain ⟨PR_lines, rfl, b_PR_lines⟩ := q0
      have z := all2_cons gf
      clear gf
      obtain ⟨v0, fs, rfl, q0, gf⟩ := z
      obtain ⟨PR_told, rfl, b_PR_told⟩ := q0
      have z := all2_cons gf
      clear gf
      obtain ⟨v0, fs, rfl, q0, gf⟩ := z
      obtain ⟨PR_stamps, rfl, b_PR_stamps⟩ := q0
      cases fs with
      | cons _ _ => exact gf.elim
      | nil =>
        have z := all2_cons hh
        clear hh
        obtain ⟨e1, h, rfl, g1, hh⟩ := z
        rcases e1 with ⟨t1, n1, PR_sign⟩ | ⟨ci, fs⟩
        rotate_left
        · exact g1.elim
        obtain ⟨et, en, b_PR_sign⟩ := g1
        cases (et : t1 = 0)
        cases en
        have z := all2_cons hh
        clear hh
        obtain ⟨e1, h, rfl, g1, hh⟩ := z
        rcases e1 with ⟨t1, n1, PR_letter⟩ | ⟨ci, fs⟩
        rotate_left
        · exact g1.elim
        obtain ⟨et, en, b_PR_letter⟩ := g1
        cases (et : t1 = 0)
        cases en
        have z := all2_cons hh
        clear hh
        obtain ⟨e1, h, rfl, g1, hh⟩ := z
        rcases e1 with ⟨t1, n1, PR_number⟩ | ⟨ci, fs⟩
        rotate_left
        · exact g1.elim
        obtain ⟨et, en, b_PR_number⟩ := g1
        cases (et : t1 = 0)
        cases en
        have z := all2_cons hh
        clear hh
        obtain ⟨e0, h, rfl, g0, hh⟩ := z
        rcases e0 with ⟨t0, n0, f0⟩ | ⟨ci, fs⟩
        · exact g0.elim
        obtain ⟨rfl, gf⟩ := g0
        have z := all2_cons gf
        clear gf
        obtain ⟨v0, fs, rfl, q0, gf⟩ := z
        cases (q0 : v0 = .inr (some (.inl 8)))
        have z := all2_cons gf
        clear gf
        obtain ⟨v0, fs, rfl, q0, gf⟩ := z
        cases (q0 : v0 = .inr (some (.inl 9)))
        have z := all2_cons gf
        clear gf
        obtain ⟨v0, fs, rfl, q0, gf⟩ := z
        cases (q0 : v0 = .inr (some (.inl 10)))
        have z := all2_cons gf
        clear gf
        obtain ⟨v0, fs, rfl, q0, gf⟩ := z
        cases (q0 : v0 = .inr (some (.inl 11)))
        have z := all2_cons gf
        clear gf
        obtain ⟨v0, fs, rfl, q0, gf⟩ := z
        obtain ⟨Now_told, rfl, e_Now_told, b_Now_told⟩ := gT_x (τ := τ) (t := 206) (v := v0) rfl q0
        have z := all2_cons gf
        clear gf
        obtain ⟨v0, fs, rfl, q0, gf⟩ := z
        obtain ⟨Now_walled, rfl, b_Now_walled⟩ := q0
        have z := all2_cons gf
        clear gf
        obtain ⟨v0, fs, rfl, q0, gf⟩ := z
        obtain ⟨Now_day, rfl, b_Now_day⟩ := q0
        have z := all2_cons gf
        clear gf
        obtain ⟨v0, fs, rfl, q0, gf⟩ := z
        obtain ⟨Now_drawState, rfl, b_Now_drawState⟩ := q0
        cases fs with
        | cons _ _ => exact gf.elim
        | nil =>
          have z := all2_cons hh
          clear hh
          obtain ⟨e1, h, rfl, g1, hh⟩ := z
          rcases e1 with ⟨t1, n1, Now_place⟩ | ⟨ci, fs⟩
          rotate_left
          · exact g1.elim
          obtain ⟨et, en, b_Now_place⟩ := g1
          cases (et : t1 = 0)
          cases en
          have z := all2_cons hh
          clear hh
          obtain ⟨e1, h, rfl, g1, hh⟩ := z
          rcases e1 with ⟨t1, n1, Now_paste⟩ | ⟨ci, fs⟩
          rotate_left
          · exact g1.elim
          obtain ⟨et, en, b_Now_paste⟩ := g1
          cases (et : t1 = 0)
          cases en
          have z := all2_cons hh
          clear hh
          obtain ⟨e1, h, rfl, g1, hh⟩ := z
          rcases e1 with ⟨t1, n1, Now_letter⟩ | ⟨ci, fs⟩
          rotate_left
          · exact g1.elim
          obtain ⟨et, en, b_Now_letter⟩ := g1
          cases (et : t1 = 0)
          cases en
          have z := all2_cons hh
          clear hh
          obtain ⟨e1, h, rfl, g1, hh⟩ := z
          rcases e1 with ⟨t1, n1, Now_used⟩ | ⟨ci, fs⟩
          rotate_left
          · exact g1.elim
          obtain ⟨et, en, b_Now_used⟩ := g1
          cases (et : t1 = 0)
          cases en
          have z := all2_cons hh
          clear hh
          obtain ⟨e0, h, rfl, g0, hh⟩ := z
          rcases e0 with ⟨t0, n0, f0⟩ | ⟨ci, fs⟩
          · exact g0.elim
          obtain ⟨rfl, gf⟩ := g0
          have z := all2_cons gf
          clear gf
          obtain ⟨v0, fs, rfl, q0, gf⟩ := z
          cases (q0 : v0 = .inr (some (.inl 13)))
          have z := all2_cons gf
          clear gf
          obtain ⟨v0, fs, rfl, q0, gf⟩ := z
          cases (q0 : v0 = .inr (some (.inl 14)))
          have z := all2_cons gf
          clear gf
          obtain ⟨v0, fs, rfl, q0, gf⟩ := z
          cases (q0 : v0 = .inr (some (.inl 15)))
          have z := all2_cons gf
          clear gf
          obtain ⟨v0, fs, rfl, q0, gf⟩ := z
          cases (q0 : v0 = .inr (some (.inl 16)))
          have z := all2_cons gf
          clear gf
          obtain ⟨v0, fs, rfl, q0, gf⟩ := z
          cases (q0 : v0 = .inr (some (.inl 17)))
          have z := all2_cons gf
          clear gf
          obtain ⟨v0, fs, rfl, q0, gf⟩ := z
          obtain ⟨Rep_toldMints, rfl, e_Rep_toldMints, b_Rep_toldMints⟩ := gT_x (τ := τ) (t := 203) (v := v0) rfl q0
          have z := all2_cons gf
          clear gf
          obtain ⟨v0, fs, rfl, q0, gf⟩ := z
          obtain ⟨Rep_walls, rfl, b_Rep_walls⟩ := q0
          have z := all2_cons gf
          clear gf
          obtain ⟨v0, fs, rfl, q0, gf⟩ := z
          obtain ⟨Rep_stamps, rfl, e_Rep_stamps, b_Rep_stamps⟩ := gT_x (τ := τ) (t := 204) (v := v0) rfl q0
          cases fs with
          | cons _ _ => exact gf.elim
          | nil =>
            have z := all2_cons hh
            clear hh
            obtain ⟨e1, h, rfl, g1, hh⟩ := z
            rcases e1 with ⟨t1, n1, Rep_mintX⟩ | ⟨ci, fs⟩
            rotate_left
            · exact g1.elim
            obtain ⟨et, en, b_Rep_mintX⟩ := g1
            cases (et : t1 = 0)
            cases en
            have z := all2_cons hh
            clear hh
            obtain ⟨e1, h, rfl, g1, hh⟩ := z
            rcases e1 with ⟨t1, n1, Rep_mintY⟩ | ⟨ci, fs⟩
            rotate_left
            · exact g1.elim
            obtain ⟨et, en, b_Rep_mintY⟩ := g1
            cases (et : t1 = 0)
            cases en
            have z := all2_cons hh
            clear hh
            obtain ⟨e1, h, rfl, g1, hh⟩ := z
            rcases e1 with ⟨t1, n1, Rep_wall⟩ | ⟨ci, fs⟩
            rotate_left
            · exact g1.elim
            obtain ⟨et, en, b_Rep_wall⟩ := g1
            cases (et : t1 = 2)
            cases en
            have z := all2_cons hh
            clear hh
            obtain ⟨e1, h, rfl, g1, hh⟩ := z
            rcases e1 with ⟨t1, n1, Rep_mintOf⟩ | ⟨ci, fs⟩
            rotate_left
            · exact g1.elim
            obtain ⟨et, en, b_Rep_mintOf⟩ := g1
            cases (et : t1 = 0)
            cases en
            have z := all2_cons hh
            clear hh
            obtain ⟨e1, h, rfl, g1, hh⟩ := z
            rcases e1 with ⟨t1, n1, Rep_grainsOf⟩ | ⟨ci, fs⟩
            rotate_left
            · exact g1.elim
            obtain ⟨et, en, b_Rep_grainsOf⟩ := g1
            cases (et : t1 = 0)
            cases en
            cases h with
            | cons _ _ => exact hh.elim
            | nil =>
              obtain ⟨s, hs, rfl⟩ := rng_n (x := Tape_size) (k := 260) (by omega) b_Tape_size.2
              have es := sz_n (c := s) (by omega)
              obtain ⟨rF, eF⟩ := rg_x rfl b_Tape_bytes
              obtain ⟨w1, w2⟩ := hP
              obtain rfl : Rep_stamps = nI c := e_Rep_stamps.trans w1
              obtain rfl : Now_told = nI T := e_Now_told.trans w2
              obtain ⟨rW, eW⟩ := rg_x rfl b_Rep_wall
              refine (c_X11_post (o := ob (decA (τ 250))) (n := n) (s := s) (c := c) (T := T) h1.1 (by omega) hs (by omega) hc (fun i hi => ob_ok (by omega) (eF i (by omega)) (rF i (by omega)))).mono (fun r h' hp => ?_)
              obtain ⟨at_, ah, fa, td, wd, ws, k, sg, lt, nu, pl, pa, le, us, hk, rfl, rfl⟩ := hp
              exact ⟨upL (upL τ 263 (encA (poW (ob (decA (τ 250))) n c T Rep_wall) 384)) 206 [some (natOf (nI (poT (ob (decA (τ 250))) n c T)))], _, hΦ, fun t ht => (upL_ne (ch_w ht rfl rfl).1).trans (upL_ne (ch_w ht rfl rfl).2), rfl, ⟨rfl, natOf_ok _, Rep_wall, eW, fun i hi => encA_ok hi⟩, ⟨⟨rfl, rfl, rfl, rfl, rfl, rfl, rfl, rfl, rfl, rfl, rfl, rfl, rfl, rfl, rfl, gT_mk rfl e_HS_wasKept b_HS_wasKept, trivial⟩, ⟨rfl, rfl, ⟨0, rfl, by decide, by decide⟩, trivial⟩, ⟨rfl, rfl, b_Tape_bytes⟩, ⟨rfl, rfl, topA_ok _, topA_ok _, topA_ok _, topA_ok _, rfl, rfl, rfl, ⟨_, rfl, nr20 hk⟩, topA_ok _, topA_ok _, trivial⟩, ⟨rfl, rfl, of_rg rg_top⟩, ⟨rfl, rfl, of_rg rg_top⟩, ⟨rfl, rfl, of_rg rg_top⟩, ⟨rfl, rfl, rfl, rfl, rfl, gT_mk (t := 206) rfl (natOf_ok _).symm ⟨i32lo _, i32hi _⟩, topA_ok _, ⟨_, rfl, b_Now_day⟩, ⟨_, rfl, b_Now_drawState⟩, trivial⟩, ⟨rfl, rfl, of_rg rg_top⟩, ⟨rfl, rfl, of_rg rg_top⟩, ⟨rfl, rfl, of_rg rg_top⟩, ⟨rfl, rfl, of_rg rg_top⟩, ⟨rfl, rfl, rfl, rfl, rfl, rfl, gT_mk rfl e_Rep_toldMints b_Rep_toldMints, topA_ok _, gT_mk rfl e_Rep_stamps b_Rep_stamps, trivial⟩, ⟨rfl, rfl, b_Rep_mintX⟩, ⟨rfl, rfl, b_Rep_mintY⟩, ⟨rfl, rfl, of_x rfl (rg_po rW) (fun i hi => (encA_ok hi).symm)⟩, ⟨rfl, rfl, b_Rep_mintOf⟩, ⟨rfl, rfl, b_Rep_grainsOf⟩, trivial⟩⟩

def HX_post80R : List AC := [.inr (11, [.inr (.inr (some (.inl 1))), .inr (.inr (some (.inl 2))), .inr (.inr (some (.inr 0))), .inr (.inr (some (.inr 1))), .inr (.inr (some (.inr 2))), .inr (.inr (some (.inr 3))), .inr (.inr (some (.inl 3))), .inr (.inr (some (.inl 4))), .inr (.inr (some (.inr 205))), .inr (.inr (some (.inl 5))), .inl (80, 260), .inl (0, 240), .inl (0, 240), .inl (-2147483648, 2147483647), .inl (-2147483648, 2147483647), .inl (-2147483648, 2147483647), .inl (0, 260), .inl (0, 260), .inl (0, 16), .inr (.inr (some (.inr 200))), .inr (.inr (some (.inr 4))), .inr (.inr (some (.inr 5))), .inr (.inr (some (.inr 6))), .inr (.inr (some (.inr 7))), .inr (.inr (some (.inr 8))), .inr (.inr (some (.inr 9))), .inr (.inr (some (.inr 10))), .inr (.inr (some (.inr 11))), .inr (.inr (some (.inr 12))), .inr (.inr (some (.inr 13))), .inr (.inr (some (.inr 14))), .inr (.inr (some (.inr 15))), .inr (.inr (some (.inr 16))), .inr (.inr (some (.inr 17))), .inr (.inr (some (.inr 18))), .inr (.inr (some (.inr 19))), .inr (.inr (some (.inr 20))), .inl (-2147483648, 2147483647), .inl (-2147483648, 2147483647), .inl (-2147483648, 2147483647), .inl (-2147483648, 2147483647), .inl (-2147483648, 2147483647), .inl (-2147483648, 2147483647), .inl (-2147483648, 2147483647), .inl (-2147483648, 2147483647), .inl (-2147483648, 2147483647), .inl (-2147483648, 2147483647), .inr (.inr (some (.inr 21))), .inr (.inr (some (.inr 22))), .inr (.inr (some (.inr 23))), .inr (.inr (some (.inr 24))), .inr (.inr (some (.inr 25))), .inr (.inr (some (.inr 201)))]), .inl (600, 130, 0, 383), .inl (3, 130, 0, 383), .inl (1058, 384, 0, 1), .inl (2, 384, 0, 1), .inl (1005, 260, -128, 127)]
def HY_post80R : List AC := hc_c75a9ccc1a
set_option maxRecDepth 100000 in
theorem x_post80R {l : Launch} {n c T : Nat} (h1 : 1 ≤ n ∧ n ≤ 80) (hc : c ≤ 48) : conOkX (MetP l 6 yX12_post cX12_post 4 (some .int) 0 0) [nI n] HX_post80R HY_post80R (fun t => Nat.beq t 208 || Nat.beq t 264) (fun τ => decA (τ 205) 0 = nI c ∧ tdM (decA (τ 208)) T) (fun τ τ' y => y = poY (ob (fun i => f_and (decA (τ 251) i) 255)) n c T ∧ tdM (decA (τ' 208)) (poT (ob (fun i => f_and (decA (τ 251) i) 255)) n c T) ∧ ∃ F : Nat → Int32, (∀ i, i < 384 → F i = decA (τ 264) i) ∧ ∀ i, i < 384 → decA (τ' 264) i = poW (ob (fun i => f_and (decA (τ 251) i) 255)) n c T F i) := by
  intro τ hΦ hP h hh
  have z := all2_cons hh
  clear hh
  obtain ⟨e0, h, rfl, g0, hh⟩ := z
  rcases e0 with ⟨t0, n0, f0⟩ | ⟨ci, fs⟩
  · exact g0.elim
  obtain ⟨rfl, gf⟩ := g0
  have z := all2_cons gf
  clear gf
  obtain ⟨v0, fs, rfl, q0, gf⟩ := z
  cases (q0 : v0 = .inr (some (.inl 1)))
  have z := all2_cons gf
  clear gf
  obtain ⟨v0, fs, rfl, q0, gf⟩ := z
  cases (q0 : v0 = .inr (some (.inl 2)))
  have z := all2_cons gf
  clear gf
  obtain ⟨v0, fs, rfl, q0, gf⟩ := z
  cases gT_r (τ := τ) (t := 0) (v := v0) rfl q0
  have z := all2_cons gf
  clear gf
  obtain ⟨v0, fs, rfl, q0, gf⟩ := z
  cases gT_r (τ := τ) (t := 1) (v := v0) rfl q0
  have z := all2_cons gf
  clear gf
  obtain ⟨v0, fs, rfl, q0, gf⟩ := z
  cases gT_r (τ := τ) (t := 2) (v := v0) rfl q0
  have z := all2_cons gf
  clear gf
  obtain ⟨v0, fs, rfl, q0, gf⟩ := z
  cases gT_r (τ := τ) (t := 3) (v := v0) rfl q0
  have z := all2_cons gf
  clear gf
  obtain ⟨v0, fs, rfl, q0, gf⟩ := z
  cases (q0 : v0 = .inr (some (.inl 3)))
  have z := all2_cons gf
  clear gf
  obtain ⟨v0, fs, rfl, q0, gf⟩ := z
  cases (q0 : v0 = .inr (some (.inl 4)))
  have z := all2_cons gf
  clear gf
  obtain ⟨v0, fs, rfl, q0, gf⟩ := z
  obtain ⟨M_stampMany, rfl, e_M_stampMany, b_M_stampMany⟩ := gT_x (τ := τ) (t := 205) (v := v0) rfl q0
  have z := all2_cons gf
  clear gf
  obtain ⟨v0, fs, rfl, q0, gf⟩ := z
  cases (q0 : v0 = .inr (some (.inl 5)))
  have z := all2_cons gf
  clear gf
  obtain ⟨v0, fs, rfl, q0, gf⟩ := z
  obtain ⟨M_taped, rfl, b_M_taped⟩ := q0
  have z := all2_cons gf
  clear gf
  obtain ⟨v0, fs, rfl, q0, gf⟩ := z
  obtain ⟨M_place0, rfl, b_M_place0⟩ := q0
  have z := all2_cons gf
  clear gf
  obtain ⟨v0, fs, rfl, q0, gf⟩ := z
  obtain ⟨M_length0, rfl, b_M_length0⟩ := q0
  have z := all2_cons gf
  clear gf
  obtain ⟨v0, fs, rfl, q0, gf⟩ := z
  obtain ⟨M_fault, rfl, b_M_fault⟩ := q0
  have z := all2_cons gf
  clear gf
  obtain ⟨v0, fs, rfl, q0, gf⟩ := z
  obtain ⟨M_number0, rfl, b_M_number0⟩ := q0
  have z := all2_cons gf
  clear gf
  obtain ⟨v0, fs, rfl, q0, gf⟩ := z
  obtain ⟨M_open, rfl, b_M_open⟩ := q0
  have z := all2_cons gf
  clear gf
  obtain ⟨v0, fs, rfl, q0, gf⟩ := z
  obtain ⟨M_codeMany, rfl, b_M_codeMany⟩ := q0
  have z := all2_cons gf
  clear gf
  obtain ⟨v0, fs, rfl, q0, gf⟩ := z
  obtain ⟨M_waiting, rfl, b_M_waiting⟩ := q0
  have z := all2_cons gf
  clear gf
  obtain ⟨v0, fs, rfl, q0, gf⟩ := z
  obtain ⟨M_saidMany, rfl, b_M_saidMany⟩ := q0
  have z := all2_cons gf
  clear gf
  obtain ⟨v0, fs, rfl, q0, gf⟩ := z
  obtain ⟨M_clauses, rfl, e_M_clauses, b_M_clauses⟩ := gT_x (τ := τ) (t := 200) (v := v0) rfl q0
  have z := all2_cons gf
  clear gf
  obtain ⟨v0, fs, rfl, q0, gf⟩ := z
  cases gT_r (τ := τ) (t := 4) (v := v0) rfl q0
  have z := all2_cons gf
  clear gf
  obtain ⟨v0, fs, rfl, q0, gf⟩ := z
  cases gT_r (τ := τ) (t := 5) (v := v0) rfl q0
  have z := all2_cons gf
  clear gf
  obtain ⟨v0, fs, rfl, q0, gf⟩ := z
  cases gT_r (τ := τ) (t := 6) (v := v0) rfl q0
  have z := all2_cons gf
  clear gf
  obtain ⟨v0, fs, rfl, q0, gf⟩ := z
  cases gT_r (τ := τ) (t := 7) (v := v0) rfl q0
  have z := all2_cons gf
  clear gf
  obtain ⟨v0, fs, rfl, q0, gf⟩ := z
  cases gT_r (τ := τ) (t := 8) (v := v0) rfl q0
  have z := all2_cons gf
  clear gf
  obtain ⟨v0, fs, rfl, q0, gf⟩ := z
  cases gT_r (τ := τ) (t := 9) (v := v0) rfl q0
  have z := all2_cons gf
  clear gf
  obtain ⟨v0, fs, rfl, q0, gf⟩ := z
  cases gT_r (τ := τ) (t := 10) (v := v0) rfl q0
  have z := all2_cons gf
  clear gf
  obtain ⟨v0, fs, rfl, q0, gf⟩ := z
  cases gT_r (τ := τ) (t := 11) (v := v0) rfl q0
  have z := all2_cons gf
  clear gf
  obtain ⟨v0, fs, rfl, q0, gf⟩ := z
  cases gT_r (τ := τ) (t := 12) (v := v0) rfl q0
  have z := all2_cons gf
  clear gf
  obtain ⟨v0, fs, rfl, q0, gf⟩ := z
  cases gT_r (τ := τ) (t := 13) (v := v0) rfl q0
  have z := all2_cons gf
  clear gf
  obtain ⟨v0, fs, rfl, q0, gf⟩ := z
  cases gT_r (τ := τ) (t := 14) (v := v0) rfl q0
  have z := all2_cons gf
  clear gf
  obtain ⟨v0, fs, rfl, q0, gf⟩ := z
  cases gT_r (τ := τ) (t := 15) (v := v0) rfl q0
  have z := all2_cons gf
  clear gf
  obtain ⟨v0, fs, rfl, q0, gf⟩ := z
  cases gT_r (τ := τ) (t := 16) (v := v0) rfl q0
  have z := all2_cons gf
  clear gf
  obtain ⟨v0, fs, rfl, q0, gf⟩ := z
  cases gT_r (τ := τ) (t := 17) (v := v0) rfl q0
  have z := all2_cons gf
  clear gf
  obtain ⟨v0, fs, rfl, q0, gf⟩ := z
  cases gT_r (τ := τ) (t := 18) (v := v0) rfl q0
  have z := all2_cons gf
  clear gf
  obtain ⟨v0, fs, rfl, q0, gf⟩ := z
  cases gT_r (τ := τ) (t := 19) (v := v0) rfl q0
  have z := all2_cons gf
  clear gf
  obtain ⟨v0, fs, rfl, q0, gf⟩ := z
  cases gT_r (τ := τ) (t := 20) (v := v0) rfl q0
  have z := all2_cons gf
  clear gf
  obtain ⟨v0, fs, rfl, q0, gf⟩ := z
  obtain ⟨M_newMany, rfl, b_M_newMany⟩ := q0
  have z := all2_cons gf
  clear gf
  obtain ⟨v0, fs, rfl, q0, gf⟩ := z
  obtain ⟨M_rounds, rfl, b_M_rounds⟩ := q0
  have z := all2_cons gf
  clear gf
  obtain ⟨v0, fs, rfl, q0, gf⟩ := z
  obtain ⟨M_stampFrom, rfl, b_M_stampFrom⟩ := q0
  have z := all2_cons gf
  clear gf
  obtain ⟨v0, fs, rfl, q0, gf⟩ := z
  obtain ⟨M_stampTimes, rfl, b_M_stampTimes⟩ := q0
  have z := all2_cons gf
  clear gf
  obtain ⟨v0, fs, rfl, q0, gf⟩ := z
  obtain ⟨M_lines, rfl, b_M_lines⟩ := q0
  have z := all2_cons gf
  clear gf
  obtain ⟨v0, fs, rfl, q0, gf⟩ := z
  obtain ⟨M_spot0, rfl, b_M_spot0⟩ := q0
  have z := all2_cons gf
  clear gf
  obtain ⟨v0, fs, rfl, q0, gf⟩ := z
  obtain ⟨M_pullAcross, rfl, b_M_pullAcross⟩ := q0
  have z := all2_cons gf
  clear gf
  obtain ⟨v0, fs, rfl, q0, gf⟩ := z
  obtain ⟨M_pullAlong, rfl, b_M_pullAlong⟩ := q0
  have z := all2_cons gf
  clear gf
  obtain ⟨v0, fs, rfl, q0, gf⟩ := z
  obtain ⟨M_stepsNow, rfl, b_M_stepsNow⟩ := q0
  have z := all2_cons gf
  clear gf
  obtain ⟨v0, fs, rfl, q0, gf⟩ := z
  obtain ⟨M_fallenNow, rfl, b_M_fallenNow⟩ := q0
  have z := all2_cons gf
  clear gf
  obtain ⟨v0, fs, rfl, q0, gf⟩ := z
  cases gT_r (τ := τ) (t := 21) (v := v0) rfl q0
  have z := all2_cons gf
  clear gf
  obtain ⟨v0, fs, rfl, q0, gf⟩ := z
  cases gT_r (τ := τ) (t := 22) (v := v0) rfl q0
  have z := all2_cons gf
  clear gf
  obtain ⟨v0, fs, rfl, q0, gf⟩ := z
  cases gT_r (τ := τ) (t := 23) (v := v0) rfl q0
  have z := all2_cons gf
  clear gf
  obtain ⟨v0, fs, rfl, q0, gf⟩ := z
  cases gT_r (τ := τ) (t := 24) (v := v0) rfl q0
  have z := all2_cons gf
  clear gf
  obtain ⟨v0, fs, rfl, q0, gf⟩ := z
  cases gT_r (τ := τ) (t := 25) (v := v0) rfl q0
  have z := all2_cons gf
  clear gf
  obtain ⟨v0, fs, rfl, q0, gf⟩ := z
  obtain ⟨M_isKept, rfl, e_M_isKept, b_M_isKept⟩ := gT_x (τ := τ) (t := 201) (v := v0) rfl q0
  cases fs with
  | cons _ _ => exact gf.elim
  | nil =>
    have z := all2_cons hh
    clear hh
    obtain ⟨e1, h, rfl, g1, hh⟩ := z
    rcases e1 with ⟨t1, n1, M_now⟩ | ⟨ci, fs⟩
    rotate_left
    · exact g1.elim
    obtain ⟨et, en, b_M_now⟩ := g1
    cases (et : t1 = 0)
    cases en
    have z := all2_cons hh
    clear hh
    obtain ⟨e1, h, rfl, g1, hh⟩ := z
    rcases e1 with ⟨t1, n1, M_aside⟩ | ⟨ci, fs⟩
    rotate_left
    · exact g1.elim
    obtain ⟨et, en, b_M_aside⟩ := g1
    cases (et : t1 = 0)
    cases en
    have z := all2_cons hh
    clear hh
    obtain ⟨e1, h, rfl, g1, hh⟩ := z
    rcases e1 with ⟨t1, n1, M_isWall⟩ | ⟨ci, fs⟩
    rotate_left
    · exact g1.elim
    obtain ⟨et, en, b_M_isWall⟩ := g1
    cases (et : t1 = 2)
    cases en
    have z := all2_cons hh
    clear hh
    obtain ⟨e1, h, rfl, g1, hh⟩ := z
    rcases e1 with ⟨t1, n1, M_wasWall⟩ | ⟨ci, fs⟩
    rotate_left
    · exact g1.elim
    obtain ⟨et, en, b_M_wasWall⟩ := g1
    cases (et : t1 = 2)
    cases en
    have z := all2_cons hh
    clear hh
    obtain ⟨e1, h, rfl, g1, hh⟩ := z
    rcases e1 with ⟨t1, n1, M_tape⟩ | ⟨ci, fs⟩
    rotate_left
    · exact g1.elim
    obtain ⟨et, en, b_M_tape⟩ := g1
    cases (et : t1 = 1)
    cases en
    cases h with
    | cons _ _ => exact hh.elim
    | nil =>
      obtain ⟨s, hs, rfl⟩ := rng_n (x := M_taped) (k := 260) (by omega) b_M_taped.2
      have es := sz_n (c := s) (by omega)
      obtain ⟨rF, eF⟩ := rg_x rfl b_M_tape
      obtain ⟨w1, w2⟩ := hP
      obtain rfl : M_stampMany = nI c := e_M_stampMany.trans w1
      have sg := seg6_of (t := 600) rfl rfl b_M_now
      obtain ⟨rW, eW⟩ := rg_x rfl b_M_isWall
      refine (x_X12_post (b := ob (fun i => f_and (decA (τ 251) i) 255)) (n := n) (s := s) (c := c) (T := T) h1.1 (by omega) hs (by omega) hc (fun i hi => ob_ok (f := fun i => f_and (decA (τ 251) i) 255) (F := fun i => f_and (M_tape i) 255) (by omega) (by show f_and (M_tape i) 255 = f_and (decA (τ 251) i) 255; rw [eF i (by omega)]) oct_rng) (fun i hi => (sg.2 i hi).trans (w2 i hi)) sg.1 rW (rg_of2 b_M_wasWall)).mono (fun r h' hp => ?_)
      obtain ⟨nw, as, wl, ww, pp, f, w, sp, ln, rfl, kT, kW, k1, k2, k3, k4, k5, rfl⟩ := hp
      exact ⟨upL (upL τ 264 (encA wl 384)) 208 (encA nw 8), _, hΦ, fun t ht => (upL_ne (ch_w ht rfl rfl).1).trans (upL_ne (ch_w ht rfl rfl).2), rfl, ⟨rfl, fun i hi => (encA_ok hi).trans (kT i hi), M_isWall, eW, fun i hi => (encA_ok hi).trans (kW i hi)⟩, ⟨⟨rfl, rfl, rfl, rfl, rfl, rfl, rfl, rfl, rfl, gT_mk rfl e_M_stampMany b_M_stampMany, rfl, ⟨0, rfl, by decide, by decide⟩, ⟨_, rfl, k5⟩, ⟨_, rfl, nr240 (by omega)⟩, topA_ok _, topA_ok _, ⟨_, rfl, b_M_open⟩, ⟨0, rfl, by decide, by decide⟩, ⟨_, rfl, b_M_waiting⟩, ⟨0, rfl, by decide, by decide⟩, gT_mk rfl e_M_clauses b_M_clauses, rfl, rfl, rfl, rfl, rfl, rfl, rfl, rfl, rfl, rfl, rfl, rfl, rfl, rfl, rfl, rfl, rfl, ⟨_, rfl, b_M_newMany⟩, ⟨_, rfl, b_M_rounds⟩, ⟨_, rfl, b_M_stampFrom⟩, ⟨_, rfl, b_M_stampTimes⟩, topA_ok _, topA_ok _, ⟨_, rfl, b_M_pullAcross⟩, ⟨_, rfl, b_M_pullAlong⟩, ⟨_, rfl, b_M_stepsNow⟩, ⟨_, rfl, b_M_fallenNow⟩, rfl, rfl, rfl, rfl, rfl, gT_mk rfl e_M_isKept b_M_isKept, trivial⟩, ⟨rfl, rfl, of_seg6 ⟨k1, fun i hi => (encA_ok hi).symm⟩⟩, ⟨rfl, rfl, of_seg k2⟩, ⟨rfl, rfl, of_x rfl k3 (fun i hi => (encA_ok hi).symm)⟩, ⟨rfl, rfl, of_rg2 k4⟩, ⟨rfl, rfl, b_M_tape⟩, trivial⟩⟩

def HX_post100C : List AC := [.inr (10, [.inr (.inr (some (.inl 1))), .inr (.inr (some (.inl 12))), .inr (.inr (some (.inl 7))), .inr (.inr (some (.inr 0))), .inr (.inr (some (.inr 1))), .inr (.inr (some (.inr 2))), .inr (.inr (some (.inr 3))), .inr (.inr (some (.inr 4))), .inr (.inr (some (.inr 5))), .inr (.inr (some (.inl 3))), .inr (.inr (some (.inr 6))), .inr (.inr (some (.inr 7))), .inr (.inr (some (.inr 8))), .inr (.inr (some (.inr 9))), .inr (.inr (some (.inr 201)))]), .inr (9, [.inr (.inr (some (.inl 2))), .inl (100, 260)]), .inl (1000, 260, 0, 255), .inr (5, [.inr (.inr (some (.inl 2))), .inl (-2147483648, 2147483647), .inl (-2147483648, 2147483647), .inl (-2147483648, 2147483647), .inl (-2147483648, 2147483647), .inr (.inr (some (.inl 4))), .inr (.inr (some (.inl 5))), .inr (.inr (some (.inl 6))), .inl (0, 20), .inl (-2147483648, 2147483647), .inl (-2147483648, 2147483647)]), .inl (0, 20, -2147483648, 2147483647), .inl (0, 20, -2147483648, 2147483647), .inl (0, 20, -2147483648, 2147483647), .inr (4, [.inr (.inr (some (.inl 8))), .inr (.inr (some (.inl 9))), .inr (.inr (some (.inl 10))), .inr (.inr (some (.inl 11))), .inr (.inr (some (.inr 206))), .inl (-2147483648, 2147483647), .inl (-2147483648, 2147483647), .inl (-2147483648, 2147483647)]), .inl (0, 8, -2147483648, 2147483647), .inl (0, 8, -2147483648, 2147483647), .inl (0, 48, -2147483648, 2147483647), .inl (0, 48, -2147483648, 2147483647), .inr (6, [.inr (.inr (some (.inl 13))), .inr (.inr (some (.inl 14))), .inr (.inr (some (.inl 15))), .inr (.inr (some (.inl 16))), .inr (.inr (some (.inl 17))), .inr (.inr (some (.inr 203))), .inl (-2147483648, 2147483647), .inr (.inr (some (.inr 204)))]), .inl (1008, 8, -2147483648, 2147483647), .inl (1012, 8, -2147483648, 2147483647), .inl (1054, 384, 0, 1), .inl (1020, 48, -2147483648, 2147483647), .inl (1024, 48, -2147483648, 2147483647)]
def HY_post100C : List AC := hc_8b88427f46
set_option maxRecDepth 100000 in
theorem x_post100C {l : Launch} {n c T : Nat} (h1 : 1 ≤ n ∧ n ≤ 100) (hc : c ≤ 48) : conOkX (MetP l 6 yX11_post cX11_post 3 (some .int) 0 0) [nI n] HX_post100C HY_post100C (fun t => Nat.beq t 206 || Nat.beq t 263) (fun τ => decA (τ 204) 0 = nI c ∧ decA (τ 206) 0 = nI T) (fun τ τ' y => y = poY (ob (decA (τ 250))) n c T ∧ decA (τ' 206) 0 = nI (poT (ob (decA (τ 250))) n c T) ∧ ∃ F : Nat → Int32, (∀ i, i < 384 → F i = decA (τ 263) i) ∧ ∀ i, i < 384 → decA (τ' 263) i = poW (ob (decA (τ 250))) n c T F i) := by
  intro τ hΦ hP h hh
  have z := all2_cons hh
  clear hh
  obtain ⟨e0, h, rfl, g0, hh⟩ := z
  rcases e0 with ⟨t0, n0, f0⟩ | ⟨ci, fs⟩
  · exact g0.elim
  obtain ⟨rfl, gf⟩ := g0
  have z := all2_cons gf
  clear gf
  obtain ⟨v0, fs, rfl, q0, gf⟩ := z
  cases (q0 : v0 = .inr (some (.inl 1)))
  have z := all2_cons gf
  clear gf
  obtain ⟨v0, fs, rfl, q0, gf⟩ := z
  cases (q0 : v0 = .inr (some (.inl 12)))
  have z := all2_cons gf
  clear gf
  obtain ⟨v0, fs, rfl, q0, gf⟩ := z
  cases (q0 : v0 = .inr (some (.inl 7)))
  have z := all2_cons gf
  clear gf
  obtain ⟨v0, fs, rfl, q0, gf⟩ := z
  cases gT_r (τ := τ) (t := 0) (v := v0) rfl q0
  have z := all2_cons gf
  clear gf
  obtain ⟨v0, fs, rfl, q0, gf⟩ := z
  cases gT_r (τ := τ) (t := 1) (v := v0) rfl q0
  have z := all2_cons gf
  clear gf
  obtain ⟨v0, fs, rfl, q0, gf⟩ := z
  cases gT_r (τ := τ) (t := 2) (v := v0) rfl q0
  have z := all2_cons gf
  clear gf
  obtain ⟨v0, fs, rfl, q0, gf⟩ := z
  cases gT_r (τ := τ) (t := 3) (v := v0) rfl q0
  have z := all2_cons gf
  clear gf
  obtain ⟨v0, fs, rfl, q0, gf⟩ := z
  cases gT_r (τ := τ) (t := 4) (v := v0) rfl q0
  have z := all2_cons gf
  clear gf
  obtain ⟨v0, fs, rfl, q0, gf⟩ := z
  cases gT_r (τ := τ) (t := 5) (v := v0) rfl q0
  have z := all2_cons gf
  clear gf
  obtain ⟨v0, fs, rfl, q0, gf⟩ := z
  cases (q0 : v0 = .inr (some (.inl 3)))
  have z := all2_cons gf
  clear gf
  obtain ⟨v0, fs, rfl, q0, gf⟩ := z
  cases gT_r (τ := τ) (t := 6) (v := v0) rfl q0
  have z := all2_cons gf
  clear gf
  obtain ⟨v0, fs, rfl, q0, gf⟩ := z
  cases gT_r (τ := τ) (t := 7) (v := v0) rfl q0
  have z := all2_cons gf
  clear gf
  obtain ⟨v0, fs, rfl, q0, gf⟩ := z
  cases gT_r (τ := τ) (t := 8) (v := v0) rfl q0
  have z := all2_cons gf
  clear gf
  obtain ⟨v0, fs, rfl, q0, gf⟩ := z
  cases gT_r (τ := τ) (t := 9) (v := v0) rfl q0
  have z := all2_cons gf
  clear gf
  obtain ⟨v0, fs, rfl, q0, gf⟩ := z
  obtain ⟨HS_wasKept, rfl, e_HS_wasKept, b_HS_wasKept⟩ := gT_x (τ := τ) (t := 201) (v := v0) rfl q0
  cases fs with
  | cons _ _ => exact gf.elim
  | nil =>
    have z := all2_cons hh
    clear hh
    obtain ⟨e0, h, rfl, g0, hh⟩ := z
    rcases e0 with ⟨t0, n0, f0⟩ | ⟨ci, fs⟩
    · exact g0.elim
    obtain ⟨rfl, gf⟩ := g0
    have z := all2_cons gf
    clear gf
    obtain ⟨v0, fs, rfl, q0, gf⟩ := z
    cases (q0 : v0 = .inr (some (.inl 2)))
    have z := all2_cons gf
    clear gf
    obtain ⟨v0, fs, rfl, q0, gf⟩ := z
    obtain ⟨Tape_size, rfl, b_Tape_size⟩ := q0
    cases fs with
    | cons _ _ => exact gf.elim
    | nil =>
      have z := all2_cons hh
      clear hh
      obtain ⟨e1, h, rfl, g1, hh⟩ := z
      rcases e1 with ⟨t1, n1, Tape_bytes⟩ | ⟨ci, fs⟩
      rotate_left
      · exact g1.elim
      obtain ⟨et, en, b_Tape_bytes⟩ := g1
      cases (et : t1 = 0)
      cases en
      have z := all2_cons hh
      clear hh
      obtain ⟨e0, h, rfl, g0, hh⟩ := z
      rcases e0 with ⟨t0, n0, f0⟩ | ⟨ci, fs⟩
      · exact g0.elim
      obtain ⟨rfl, gf⟩ := g0
      have z := all2_cons gf
      clear gf
      obtain ⟨v0, fs, rfl, q0, gf⟩ := z
      cases (q0 : v0 = .inr (some (.inl 2)))
      have z := all2_cons gf
      clear gf
      obtain ⟨v0, fs, rfl, q0, gf⟩ := z
      obtain ⟨PR_end, rfl, b_PR_end⟩ := q0
      have z := all2_cons gf
      clear gf
      obtain ⟨v0, fs, rfl, q0, gf⟩ := z
      obtain ⟨PR_at, rfl, b_PR_at⟩ := q0
      have z := all2_cons gf
      clear gf
      obtain ⟨v0, fs, rfl, q0, gf⟩ := z
      obtain ⟨PR_ahead, rfl, b_PR_ahead⟩ := q0
      have z := all2_cons gf
      clear gf
      obtain ⟨v0, fs, rfl, q0, gf⟩ := z
      obtain ⟨PR_fault, rfl, b_PR_fault⟩ := q0
      have z := all2_cons gf
      clear gf
      obtain ⟨v0, fs, rfl, q0, gf⟩ := z
      cases (q0 : v0 = .inr (some (.inl 4)))
      have z := all2_cons gf
      clear gf
      obtain ⟨v0, fs, rfl, q0, gf⟩ := z
      cases (q0 : v0 = .inr (some (.inl 5)))
      have z := all2_cons gf
      clear gf
      obtain ⟨v0, fs, rfl, q0, gf⟩ := z
      cases (q0 : v0 = .inr (some (.inl 6)))
      have z := all2_cons gf
      clear gf
      obtain ⟨v0, fs, rfl, q0, gf⟩ := z
      obtain ⟨PR_lines, rfl, b_PR_lines⟩ := q0
      have z := all2_cons gf
      clear gf
      obtain ⟨v0, fs, rfl, q0, gf⟩ := z
      obtain ⟨PR_told, rfl, b_PR_told⟩ := q0
      have z := all2_cons gf
      clear gf
      obtain ⟨v0, fs, rfl, q0, gf⟩ := z
      obtain ⟨PR_stamps, rfl, b_PR_stamps⟩ := q0
      cases fs with
      | cons _ _ => exact gf.elim
      | nil =>
        have z := all2_cons hh
        clear hh
        obtain ⟨e1, h, rfl, g1, hh⟩ := z
        rcases e1 with ⟨t1, n1, PR_sign⟩ | ⟨ci, fs⟩
        rotate_left
        · exact g1.elim
        obtain ⟨et, en, b_PR_sign⟩ := g1
        cases (et : t1 = 0)
        cases en
        have z := all2_cons hh
        clear hh
        obtain ⟨e1, h, rfl, g1, hh⟩ := z
        rcases e1 with ⟨t1, n1, PR_letter⟩ | ⟨ci, fs⟩
        rotate_left
        · exact g1.elim
        obtain ⟨et, en, b_PR_letter⟩ := g1
        cases (et : t1 = 0)
        cases en
        have z := all2_cons hh
        clear hh
        obtain ⟨e1, h, rfl, g1, hh⟩ := z
        rcases e1 with ⟨t1, n1, PR_number⟩ | ⟨ci, fs⟩
        rotate_left
        · exact g1.elim
        obtain ⟨et, en, b_PR_number⟩ := g1
        cases (et : t1 = 0)
        cases en
        have z := all2_cons hh
        clear hh
        obtain ⟨e0, h, rfl, g0, hh⟩ := z
        rcases e0 with ⟨t0, n0, f0⟩ | ⟨ci, fs⟩
        · exact g0.elim
        obtain ⟨rfl, gf⟩ := g0
        have z := all2_cons gf
        clear gf
        obtain ⟨v0, fs, rfl, q0, gf⟩ := z
        cases (q0 : v0 = .inr (some (.inl 8)))
        have z := all2_cons gf
        clear gf
        obtain ⟨v0, fs, rfl, q0, gf⟩ := z
        cases (q0 : v0 = .inr (some (.inl 9)))
        have z := all2_cons gf
        clear gf
        obtain ⟨v0, fs, rfl, q0, gf⟩ := z
        cases (q0 : v0 = .inr (some (.inl 10)))
        have z := all2_cons gf
        clear gf
        obtain ⟨v0, fs, rfl, q0, gf⟩ := z
        cases (q0 : v0 = .inr (some (.inl 11)))
        have z := all2_cons gf
        clear gf
        obtain ⟨v0, fs, rfl, q0, gf⟩ := z
        obtain ⟨Now_told, rfl, e_Now_told, b_Now_told⟩ := gT_x (τ := τ) (t := 206) (v := v0) rfl q0
        have z := all2_cons gf
        clear gf
        obtain ⟨v0, fs, rfl, q0, gf⟩ := z
        obtain ⟨Now_walled, rfl, b_Now_walled⟩ := q0
        have z := all2_cons gf
        clear gf
        obtain ⟨v0, fs, rfl, q0, gf⟩ := z
        obtain ⟨Now_day, rfl, b_Now_day⟩ := q0
        have z := all2_cons gf
        clear gf
        obtain ⟨v0, fs, rfl, q0, gf⟩ := z
        obtain ⟨Now_drawState, rfl, b_Now_drawState⟩ := q0
        cases fs with
        | cons _ _ => exact gf.elim
        | nil =>
          have z := all2_cons hh
          clear hh
          obtain ⟨e1, h, rfl, g1, hh⟩ := z
          rcases e1 with ⟨t1, n1, Now_place⟩ | ⟨ci, fs⟩
          rotate_left
          · exact g1.elim
          obtain ⟨et, en, b_Now_place⟩ := g1
          cases (et : t1 = 0)
          cases en
          have z := all2_cons hh
          clear hh
          obtain ⟨e1, h, rfl, g1, hh⟩ := z
          rcases e1 with ⟨t1, n1, Now_paste⟩ | ⟨ci, fs⟩
          rotate_left
          · exact g1.elim
          obtain ⟨et, en, b_Now_paste⟩ := g1
          cases (et : t1 = 0)
          cases en
          have z := all2_cons hh
          clear hh
          obtain ⟨e1, h, rfl, g1, hh⟩ := z
          rcases e1 with ⟨t1, n1, Now_letter⟩ | ⟨ci, fs⟩
          rotate_left
          · exact g1.elim
          obtain ⟨et, en, b_Now_letter⟩ := g1
          cases (et : t1 = 0)
          cases en
          have z := all2_cons hh
          clear hh
          obtain ⟨e1, h, rfl, g1, hh⟩ := z
          rcases e1 with ⟨t1, n1, Now_used⟩ | ⟨ci, fs⟩
          rotate_left
          · exact g1.elim
          obtain ⟨et, en, b_Now_used⟩ := g1
          cases (et : t1 = 0)
          cases en
          have z := all2_cons hh
          clear hh
          obtain ⟨e0, h, rfl, g0, hh⟩ := z
          rcases e0 with ⟨t0, n0, f0⟩ | ⟨ci, fs⟩
          · exact g0.elim
          obtain ⟨rfl, gf⟩ := g0
          have z := all2_cons gf
          clear gf
          obtain ⟨v0, fs, rfl, q0, gf⟩ := z
          cases (q0 : v0 = .inr (some (.inl 13)))
          have z := all2_cons gf
          clear gf
          obtain ⟨v0, fs, rfl, q0, gf⟩ := z
          cases (q0 : v0 = .inr (some (.inl 14)))
          have z := all2_cons gf
          clear gf
          obtain ⟨v0, fs, rfl, q0, gf⟩ := z
          cases (q0 : v0 = .inr (some (.inl 15)))
          have z := all2_cons gf
          clear gf
          obtain ⟨v0, fs, rfl, q0, gf⟩ := z
          cases (q0 : v0 = .inr (some (.inl 16)))
          have z := all2_cons gf
          clear gf
          obtain ⟨v0, fs, rfl, q0, gf⟩ := z
          cases (q0 : v0 = .inr (some (.inl 17)))
          have z := all2_cons gf
          clear gf
          obtain ⟨v0, fs, rfl, q0, gf⟩ := z
          obtain ⟨Rep_toldMints, rfl, e_Rep_toldMints, b_Rep_toldMints⟩ := gT_x (τ := τ) (t := 203) (v := v0) rfl q0
          have z := all2_cons gf
          clear gf
          obtain ⟨v0, fs, rfl, q0, gf⟩ := z
          obtain ⟨Rep_walls, rfl, b_Rep_walls⟩ := q0
          have z := all2_cons gf
          clear gf
          obtain ⟨v0, fs, rfl, q0, gf⟩ := z
          obtain ⟨Rep_stamps, rfl, e_Rep_stamps, b_Rep_stamps⟩ := gT_x (τ := τ) (t := 204) (v := v0) rfl q0
          cases fs with
          | cons _ _ => exact gf.elim
          | nil =>
            have z := all2_cons hh
            clear hh
            obtain ⟨e1, h, rfl, g1, hh⟩ := z
            rcases e1 with ⟨t1, n1, Rep_mintX⟩ | ⟨ci, fs⟩
            rotate_left
            · exact g1.elim
            obtain ⟨et, en, b_Rep_mintX⟩ := g1
            cases (et : t1 = 0)
            cases en
            have z := all2_cons hh
            clear hh
            obtain ⟨e1, h, rfl, g1, hh⟩ := z
            rcases e1 with ⟨t1, n1, Rep_mintY⟩ | ⟨ci, fs⟩
            rotate_left
            · exact g1.elim
            obtain ⟨et, en, b_Rep_mintY⟩ := g1
            cases (et : t1 = 0)
            cases en
            have z := all2_cons hh
            clear hh
            obtain ⟨e1, h, rfl, g1, hh⟩ := z
            rcases e1 with ⟨t1, n1, Rep_wall⟩ | ⟨ci, fs⟩
            rotate_left
            · exact g1.elim
            obtain ⟨et, en, b_Rep_wall⟩ := g1
            cases (et : t1 = 2)
            cases en
            have z := all2_cons hh
            clear hh
            obtain ⟨e1, h, rfl, g1, hh⟩ := z
            rcases e1 with ⟨t1, n1, Rep_mintOf⟩ | ⟨ci, fs⟩
            rotate_left
            · exact g1.elim
            obtain ⟨et, en, b_Rep_mintOf⟩ := g1
            cases (et : t1 = 0)
            cases en
            have z := all2_cons hh
            clear hh
            obtain ⟨e1, h, rfl, g1, hh⟩ := z
            rcases e1 with ⟨t1, n1, Rep_grainsOf⟩ | ⟨ci, fs⟩
            rotate_left
            · exact g1.elim
            obtain ⟨et, en, b_Rep_grainsOf⟩ := g1
            cases (et : t1 = 0)
            cases en
            cases h with
            | cons _ _ => exact hh.elim
            | nil =>
              obtain ⟨s, hs, rfl⟩ := rng_n (x := Tape_size) (k := 260) (by omega) b_Tape_size.2
              have es := sz_n (c := s) (by omega)
              obtain ⟨rF, eF⟩ := rg_x rfl b_Tape_bytes
              obtain ⟨w1, w2⟩ := hP
              obtain rfl : Rep_stamps = nI c := e_Rep_stamps.trans w1
              obtain rfl : Now_told = nI T := e_Now_told.trans w2
              obtain ⟨rW, eW⟩ := rg_x rfl b_Rep_wall
              refine (c_X11_post (o := ob (decA (τ 250))) (n := n) (s := s) (c := c) (T := T) h1.1 (by omega) hs (by omega) hc (fun i hi => ob_ok (by omega) (eF i (by omega)) (rF i (by omega)))).mono (fun r h' hp => ?_)
              obtain ⟨at_, ah, fa, td, wd, ws, k, sg, lt, nu, pl, pa, le, us, hk, rfl, rfl⟩ := hp
              exact ⟨upL (upL τ 263 (encA (poW (ob (decA (τ 250))) n c T Rep_wall) 384)) 206 [some (natOf (nI (poT (ob (decA (τ 250))) n c T)))], _, hΦ, fun t ht => (upL_ne (ch_w ht rfl rfl).1).trans (upL_ne (ch_w ht rfl rfl).2), rfl, ⟨rfl, natOf_ok _, Rep_wall, eW, fun i hi => encA_ok hi⟩, ⟨⟨rfl, rfl, rfl, rfl, rfl, rfl, rfl, rfl, rfl, rfl, rfl, rfl, rfl, rfl, rfl, gT_mk rfl e_HS_wasKept b_HS_wasKept, trivial⟩, ⟨rfl, rfl, ⟨0, rfl, by decide, by decide⟩, trivial⟩, ⟨rfl, rfl, b_Tape_bytes⟩, ⟨rfl, rfl, topA_ok _, topA_ok _, topA_ok _, topA_ok _, rfl, rfl, rfl, ⟨_, rfl, nr20 hk⟩, topA_ok _, topA_ok _, trivial⟩, ⟨rfl, rfl, of_rg rg_top⟩, ⟨rfl, rfl, of_rg rg_top⟩, ⟨rfl, rfl, of_rg rg_top⟩, ⟨rfl, rfl, rfl, rfl, rfl, gT_mk (t := 206) rfl (natOf_ok _).symm ⟨i32lo _, i32hi _⟩, topA_ok _, ⟨_, rfl, b_Now_day⟩, ⟨_, rfl, b_Now_drawState⟩, trivial⟩, ⟨rfl, rfl, of_rg rg_top⟩, ⟨rfl, rfl, of_rg rg_top⟩, ⟨rfl, rfl, of_rg rg_top⟩, ⟨rfl, rfl, of_rg rg_top⟩, ⟨rfl, rfl, rfl, rfl, rfl, rfl, gT_mk rfl e_Rep_toldMints b_Rep_toldMints, topA_ok _, gT_mk rfl e_Rep_stamps b_Rep_stamps, trivial⟩, ⟨rfl, rfl, b_Rep_mintX⟩, ⟨rfl, rfl, b_Rep_mintY⟩, ⟨rfl, rfl, of_x rfl (rg_po rW) (fun i hi => (encA_ok hi).symm)⟩, ⟨rfl, rfl, b_Rep_mintOf⟩, ⟨rfl, rfl, b_Rep_grainsOf⟩, trivial⟩⟩

def HX_post100R : List AC := [.inr (11, [.inr (.inr (some (.inl 1))), .inr (.inr (some (.inl 2))), .inr (.inr (some (.inr 0))), .inr (.inr (some (.inr 1))), .inr (.inr (some (.inr 2))), .inr (.inr (some (.inr 3))), .inr (.inr (some (.inl 3))), .inr (.inr (some (.inl 4))), .inr (.inr (some (.inr 205))), .inr (.inr (some (.inl 5))), .inl (100, 260), .inl (0, 240), .inl (0, 240), .inl (-2147483648, 2147483647), .inl (-2147483648, 2147483647), .inl (-2147483648, 2147483647), .inl (0, 260), .inl (0, 260), .inl (0, 16), .inr (.inr (some (.inr 200))), .inr (.inr (some (.inr 4))), .inr (.inr (some (.inr 5))), .inr (.inr (some (.inr 6))), .inr (.inr (some (.inr 7))), .inr (.inr (some (.inr 8))), .inr (.inr (some (.inr 9))), .inr (.inr (some (.inr 10))), .inr (.inr (some (.inr 11))), .inr (.inr (some (.inr 12))), .inr (.inr (some (.inr 13))), .inr (.inr (some (.inr 14))), .inr (.inr (some (.inr 15))), .inr (.inr (some (.inr 16))), .inr (.inr (some (.inr 17))), .inr (.inr (some (.inr 18))), .inr (.inr (some (.inr 19))), .inr (.inr (some (.inr 20))), .inl (-2147483648, 2147483647), .inl (-2147483648, 2147483647), .inl (-2147483648, 2147483647), .inl (-2147483648, 2147483647), .inl (-2147483648, 2147483647), .inl (-2147483648, 2147483647), .inl (-2147483648, 2147483647), .inl (-2147483648, 2147483647), .inl (-2147483648, 2147483647), .inl (-2147483648, 2147483647), .inr (.inr (some (.inr 21))), .inr (.inr (some (.inr 22))), .inr (.inr (some (.inr 23))), .inr (.inr (some (.inr 24))), .inr (.inr (some (.inr 25))), .inr (.inr (some (.inr 201)))]), .inl (600, 130, 0, 383), .inl (3, 130, 0, 383), .inl (1058, 384, 0, 1), .inl (2, 384, 0, 1), .inl (1005, 260, -128, 127)]
def HY_post100R : List AC := hc_c75a9ccc1a
set_option maxRecDepth 100000 in
theorem x_post100R {l : Launch} {n c T : Nat} (h1 : 1 ≤ n ∧ n ≤ 100) (hc : c ≤ 48) : conOkX (MetP l 6 yX12_post cX12_post 4 (some .int) 0 0) [nI n] HX_post100R HY_post100R (fun t => Nat.beq t 208 || Nat.beq t 264) (fun τ => decA (τ 205) 0 = nI c ∧ tdM (decA (τ 208)) T) (fun τ τ' y => y = poY (ob (fun i => f_and (decA (τ 251) i) 255)) n c T ∧ tdM (decA (τ' 208)) (poT (ob (fun i => f_and (decA (τ 251) i) 255)) n c T) ∧ ∃ F : Nat → Int32, (∀ i, i < 384 → F i = decA (τ 264) i) ∧ ∀ i, i < 384 → decA (τ' 264) i = poW (ob (fun i => f_and (decA (τ 251) i) 255)) n c T F i) := by
  intro τ hΦ hP h hh
  have z := all2_cons hh
  clear hh
  obtain ⟨e0, h, rfl, g0, hh⟩ := z
  rcases e0 with ⟨t0, n0, f0⟩ | ⟨ci, fs⟩
  · exact g0.elim
  obtain ⟨rfl, gf⟩ := g0
  have z := all2_cons gf
  clear gf
  obtain ⟨v0, fs, rfl, q0, gf⟩ := z
  cases (q0 : v0 = .inr (some (.inl 1)))
  have z := all2_cons gf
  clear gf
  obtain ⟨v0, fs, rfl, q0, gf⟩ := z
  cases (q0 : v0 = .inr (some (.inl 2)))
  have z := all2_cons gf
  clear gf
  obtain ⟨v0, fs, rfl, q0, gf⟩ := z
  cases gT_r (τ := τ) (t := 0) (v := v0) rfl q0
  have z := all2_cons gf
  clear gf
  obtain ⟨v0, fs, rfl, q0, gf⟩ := z
  cases gT_r (τ := τ) (t := 1) (v := v0) rfl q0
  have z := all2_cons gf
  clear gf
  obtain ⟨v0, fs, rfl, q0, gf⟩ := z
  cases gT_r (τ := τ) (t := 2) (v := v0) rfl q0
  have z := all2_cons gf
  clear gf
  obtain ⟨v0, fs, rfl, q0, gf⟩ := z
  cases gT_r (τ := τ) (t := 3) (v := v0) rfl q0
  have z := all2_cons gf
  clear gf
  obtain ⟨v0, fs, rfl, q0, gf⟩ := z
  cases (q0 : v0 = .inr (some (.inl 3)))
  have z := all2_cons gf
  clear gf
  obtain ⟨v0, fs, rfl, q0, gf⟩ := z
  cases (q0 : v0 = .inr (some (.inl 4)))
  have z := all2_cons gf
  clear gf
  obtain ⟨v0, fs, rfl, q0, gf⟩ := z
  obtain ⟨M_stampMany, rfl, e_M_stampMany, b_M_stampMany⟩ := gT_x (τ := τ) (t := 205) (v := v0) rfl q0
  have z := all2_cons gf
  clear gf
  obtain ⟨v0, fs, rfl, q0, gf⟩ := z
  cases (q0 : v0 = .inr (some (.inl 5)))
  have z := all2_cons gf
  clear gf
  obtain ⟨v0, fs, rfl, q0, gf⟩ := z
  obtain ⟨M_taped, rfl, b_M_taped⟩ := q0
  have z := all2_cons gf
  clear gf
  obtain ⟨v0, fs, rfl, q0, gf⟩ := z
  obtain ⟨M_place0, rfl, b_M_place0⟩ := q0
  have z := all2_cons gf
  clear gf
  obtain ⟨v0, fs, rfl, q0, gf⟩ := z
  obtain ⟨M_length0, rfl, b_M_length0⟩ := q0
  have z := all2_cons gf
  clear gf
  obtain ⟨v0, fs, rfl, q0, gf⟩ := z
  obtain ⟨M_fault, rfl, b_M_fault⟩ := q0
  have z := all2_cons gf
  clear gf
  obtain ⟨v0, fs, rfl, q0, gf⟩ := z
  obtain ⟨M_number0, rfl, b_M_number0⟩ := q0
  have z := all2_cons gf
  clear gf
  obtain ⟨v0, fs, rfl, q0, gf⟩ := z
  obtain ⟨M_open, rfl, b_M_open⟩ := q0
  have z := all2_cons gf
  clear gf
  obtain ⟨v0, fs, rfl, q0, gf⟩ := z
  obtain ⟨M_codeMany, rfl, b_M_codeMany⟩ := q0
  have z := all2_cons gf
  clear gf
  obtain ⟨v0, fs, rfl, q0, gf⟩ := z
  obtain ⟨M_waiting, rfl, b_M_waiting⟩ := q0
  have z := all2_cons gf
  clear gf
  obtain ⟨v0, fs, rfl, q0, gf⟩ := z
  obtain ⟨M_saidMany, rfl, b_M_saidMany⟩ := q0
  have z := all2_cons gf
  clear gf
  obtain ⟨v0, fs, rfl, q0, gf⟩ := z
  obtain ⟨M_clauses, rfl, e_M_clauses, b_M_clauses⟩ := gT_x (τ := τ) (t := 200) (v := v0) rfl q0
  have z := all2_cons gf
  clear gf
  obtain ⟨v0, fs, rfl, q0, gf⟩ := z
  cases gT_r (τ := τ) (t := 4) (v := v0) rfl q0
  have z := all2_cons gf
  clear gf
  obtain ⟨v0, fs, rfl, q0, gf⟩ := z
  cases gT_r (τ := τ) (t := 5) (v := v0) rfl q0
  have z := all2_cons gf
  clear gf
  obtain ⟨v0, fs, rfl, q0, gf⟩ := z
  cases gT_r (τ := τ) (t := 6) (v := v0) rfl q0
  have z := all2_cons gf
  clear gf
  obtain ⟨v0, fs, rfl, q0, gf⟩ := z
  cases gT_r (τ := τ) (t := 7) (v := v0) rfl q0
  have z := all2_cons gf
  clear gf
  obtain ⟨v0, fs, rfl, q0, gf⟩ := z
  cases gT_r (τ := τ) (t := 8) (v := v0) rfl q0
  have z := all2_cons gf
  clear gf
  obtain ⟨v0, fs, rfl, q0, gf⟩ := z
  cases gT_r (τ := τ) (t := 9) (v := v0) rfl q0
  have z := all2_cons gf
  clear gf
  obtain ⟨v0, fs, rfl, q0, gf⟩ := z
  cases gT_r (τ := τ) (t := 10) (v := v0) rfl q0
  have z := all2_cons gf
  clear gf
  obtain ⟨v0, fs, rfl, q0, gf⟩ := z
  cases gT_r (τ := τ) (t := 11) (v := v0) rfl q0
  have z := all2_cons gf
  clear gf
  obtain ⟨v0, fs, rfl, q0, gf⟩ := z
  cases gT_r (τ := τ) (t := 12) (v := v0) rfl q0
  have z := all2_cons gf
  clear gf
  obtain ⟨v0, fs, rfl, q0, gf⟩ := z
  cases gT_r (τ := τ) (t := 13) (v := v0) rfl q0
  have z := all2_cons gf
  clear gf
  obtain ⟨v0, fs, rfl, q0, gf⟩ := z
  cases gT_r (τ := τ) (t := 14) (v := v0) rfl q0
  have z := all2_cons gf
  clear gf
  obtain ⟨v0, fs, rfl, q0, gf⟩ := z
  cases gT_r (τ := τ) (t := 15) (v := v0) rfl q0
  have z := all2_cons gf
  clear gf
  obtain ⟨v0, fs, rfl, q0, gf⟩ := z
  cases gT_r (τ := τ) (t := 16) (v := v0) rfl q0
  have z := all2_cons gf
  clear gf
  obtain ⟨v0, fs, rfl, q0, gf⟩ := z
  cases gT_r (τ := τ) (t := 17) (v := v0) rfl q0
  have z := all2_cons gf
  clear gf
  obtain ⟨v0, fs, rfl, q0, gf⟩ := z
  cases gT_r (τ := τ) (t := 18) (v := v0) rfl q0
  have z := all2_cons gf
  clear gf
  obtain ⟨v0, fs, rfl, q0, gf⟩ := z
  cases gT_r (τ := τ) (t := 19) (v := v0) rfl q0
  have z := all2_cons gf
  clear gf
  obtain ⟨v0, fs, rfl, q0, gf⟩ := z
  cases gT_r (τ := τ) (t := 20) (v := v0) rfl q0
  have z := all2_cons gf
  clear gf
  obtain ⟨v0, fs, rfl, q0, gf⟩ := z
  obtain ⟨M_newMany, rfl, b_M_newMany⟩ := q0
  have z := all2_cons gf
  clear gf
  obtain ⟨v0, fs, rfl, q0, gf⟩ := z
  obtain ⟨M_rounds, rfl, b_M_rounds⟩ := q0
  have z := all2_cons gf
  clear gf
  obtain ⟨v0, fs, rfl, q0, gf⟩ := z
  obtain ⟨M_stampFrom, rfl, b_M_stampFrom⟩ := q0
  have z := all2_cons gf
  clear gf
  obtain ⟨v0, fs, rfl, q0, gf⟩ := z
  obtain ⟨M_stampTimes, rfl, b_M_stampTimes⟩ := q0
  have z := all2_cons gf
  clear gf
  obtain ⟨v0, fs, rfl, q0, gf⟩ := z
  obtain ⟨M_lines, rfl, b_M_lines⟩ := q0
  have z := all2_cons gf
  clear gf
  obtain ⟨v0, fs, rfl, q0, gf⟩ := z
  obtain ⟨M_spot0, rfl, b_M_spot0⟩ := q0
  have z := all2_cons gf
  clear gf
  obtain ⟨v0, fs, rfl, q0, gf⟩ := z
  obtain ⟨M_pullAcross, rfl, b_M_pullAcross⟩ := q0
  have z := all2_cons gf
  clear gf
  obtain ⟨v0, fs, rfl, q0, gf⟩ := z
  obtain ⟨M_pullAlong, rfl, b_M_pullAlong⟩ := q0
  have z := all2_cons gf
  clear gf
  obtain ⟨v0, fs, rfl, q0, gf⟩ := z
  obtain ⟨M_stepsNow, rfl, b_M_stepsNow⟩ := q0
  have z := all2_cons gf
  clear gf
  obtain ⟨v0, fs, rfl, q0, gf⟩ := z
  obtain ⟨M_fallenNow, rfl, b_M_fallenNow⟩ := q0
  have z := all2_cons gf
  clear gf
  obtain ⟨v0, fs, rfl, q0, gf⟩ := z
  cases gT_r (τ := τ) (t := 21) (v := v0) rfl q0
  have z := all2_cons gf
  clear gf
  obtain ⟨v0, fs, rfl, q0, gf⟩ := z
  cases gT_r (τ := τ) (t := 22) (v := v0) rfl q0
  have z := all2_cons gf
  clear gf
  obtain ⟨v0, fs, rfl, q0, gf⟩ := z
  cases gT_r (τ := τ) (t := 23) (v := v0) rfl q0
  have z := all2_cons gf
  clear gf
  obtain ⟨v0, fs, rfl, q0, gf⟩ := z
  cases gT_r (τ := τ) (t := 24) (v := v0) rfl q0
  have z := all2_cons gf
  clear gf
  obtain ⟨v0, fs, rfl, q0, gf⟩ := z
  cases gT_r (τ := τ) (t := 25) (v := v0) rfl q0
  have z := all2_cons gf
  clear gf
  obtain ⟨v0, fs, rfl, q0, gf⟩ := z
  obtain ⟨M_isKept, rfl, e_M_isKept, b_M_isKept⟩ := gT_x (τ := τ) (t := 201) (v := v0) rfl q0
  cases fs with
  | cons _ _ => exact gf.elim
  | nil =>
    have z := all2_cons hh
    clear hh
    obtain ⟨e1, h, rfl, g1, hh⟩ := z
    rcases e1 with ⟨t1, n1, M_now⟩ | ⟨ci, fs⟩
    rotate_left
    · exact g1.elim
    obtain ⟨et, en, b_M_now⟩ := g1
    cases (et : t1 = 0)
    cases en
    have z := all2_cons hh
    clear hh
    obtain ⟨e1, h, rfl, g1, hh⟩ := z
    rcases e1 with ⟨t1, n1, M_aside⟩ | ⟨ci, fs⟩
    rotate_left
    · exact g1.elim
    obtain ⟨et, en, b_M_aside⟩ := g1
    cases (et : t1 = 0)
    cases en
    have z := all2_cons hh
    clear hh
    obtain ⟨e1, h, rfl, g1, hh⟩ := z
    rcases e1 with ⟨t1, n1, M_isWall⟩ | ⟨ci, fs⟩
    rotate_left
    · exact g1.elim
    obtain ⟨et, en, b_M_isWall⟩ := g1
    cases (et : t1 = 2)
    cases en
    have z := all2_cons hh
    clear hh
    obtain ⟨e1, h, rfl, g1, hh⟩ := z
    rcases e1 with ⟨t1, n1, M_wasWall⟩ | ⟨ci, fs⟩
    rotate_left
    · exact g1.elim
    obtain ⟨et, en, b_M_wasWall⟩ := g1
    cases (et : t1 = 2)
    cases en
    have z := all2_cons hh
    clear hh
    obtain ⟨e1, h, rfl, g1, hh⟩ := z
    rcases e1 with ⟨t1, n1, M_tape⟩ | ⟨ci, fs⟩
    rotate_left
    · exact g1.elim
    obtain ⟨et, en, b_M_tape⟩ := g1
    cases (et : t1 = 1)
    cases en
    cases h with
    | cons _ _ => exact hh.elim
    | nil =>
      obtain ⟨s, hs, rfl⟩ := rng_n (x := M_taped) (k := 260) (by omega) b_M_taped.2
      have es := sz_n (c := s) (by omega)
      obtain ⟨rF, eF⟩ := rg_x rfl b_M_tape
      obtain ⟨w1, w2⟩ := hP
      obtain rfl : M_stampMany = nI c := e_M_stampMany.trans w1
      have sg := seg6_of (t := 600) rfl rfl b_M_now
      obtain ⟨rW, eW⟩ := rg_x rfl b_M_isWall
      refine (x_X12_post (b := ob (fun i => f_and (decA (τ 251) i) 255)) (n := n) (s := s) (c := c) (T := T) h1.1 (by omega) hs (by omega) hc (fun i hi => ob_ok (f := fun i => f_and (decA (τ 251) i) 255) (F := fun i => f_and (M_tape i) 255) (by omega) (by show f_and (M_tape i) 255 = f_and (decA (τ 251) i) 255; rw [eF i (by omega)]) oct_rng) (fun i hi => (sg.2 i hi).trans (w2 i hi)) sg.1 rW (rg_of2 b_M_wasWall)).mono (fun r h' hp => ?_)
      obtain ⟨nw, as, wl, ww, pp, f, w, sp, ln, rfl, kT, kW, k1, k2, k3, k4, k5, rfl⟩ := hp
      exact ⟨upL (upL τ 264 (encA wl 384)) 208 (encA nw 8), _, hΦ, fun t ht => (upL_ne (ch_w ht rfl rfl).1).trans (upL_ne (ch_w ht rfl rfl).2), rfl, ⟨rfl, fun i hi => (encA_ok hi).trans (kT i hi), M_isWall, eW, fun i hi => (encA_ok hi).trans (kW i hi)⟩, ⟨⟨rfl, rfl, rfl, rfl, rfl, rfl, rfl, rfl, rfl, gT_mk rfl e_M_stampMany b_M_stampMany, rfl, ⟨0, rfl, by decide, by decide⟩, ⟨_, rfl, k5⟩, ⟨_, rfl, nr240 (by omega)⟩, topA_ok _, topA_ok _, ⟨_, rfl, b_M_open⟩, ⟨0, rfl, by decide, by decide⟩, ⟨_, rfl, b_M_waiting⟩, ⟨0, rfl, by decide, by decide⟩, gT_mk rfl e_M_clauses b_M_clauses, rfl, rfl, rfl, rfl, rfl, rfl, rfl, rfl, rfl, rfl, rfl, rfl, rfl, rfl, rfl, rfl, rfl, ⟨_, rfl, b_M_newMany⟩, ⟨_, rfl, b_M_rounds⟩, ⟨_, rfl, b_M_stampFrom⟩, ⟨_, rfl, b_M_stampTimes⟩, topA_ok _, topA_ok _, ⟨_, rfl, b_M_pullAcross⟩, ⟨_, rfl, b_M_pullAlong⟩, ⟨_, rfl, b_M_stepsNow⟩, ⟨_, rfl, b_M_fallenNow⟩, rfl, rfl, rfl, rfl, rfl, gT_mk rfl e_M_isKept b_M_isKept, trivial⟩, ⟨rfl, rfl, of_seg6 ⟨k1, fun i hi => (encA_ok hi).symm⟩⟩, ⟨rfl, rfl, of_seg k2⟩, ⟨rfl, rfl, of_x rfl k3 (fun i hi => (encA_ok hi).symm)⟩, ⟨rfl, rfl, of_rg2 k4⟩, ⟨rfl, rfl, b_M_tape⟩, trivial⟩⟩

def HX_post120C : List AC := [.inr (10, [.inr (.inr (some (.inl 1))), .inr (.inr (some (.inl 12))), .inr (.inr (some (.inl 7))), .inr (.inr (some (.inr 0))), .inr (.inr (some (.inr 1))), .inr (.inr (some (.inr 2))), .inr (.inr (some (.inr 3))), .inr (.inr (some (.inr 4))), .inr (.inr (some (.inr 5))), .inr (.inr (some (.inl 3))), .inr (.inr (some (.inr 6))), .inr (.inr (some (.inr 7))), .inr (.inr (some (.inr 8))), .inr (.inr (some (.inr 9))), .inr (.inr (some (.inr 201)))]), .inr (9, [.inr (.inr (some (.inl 2))), .inl (120, 260)]), .inl (1000, 260, 0, 255), .inr (5, [.inr (.inr (some (.inl 2))), .inl (-2147483648, 2147483647), .inl (-2147483648, 2147483647), .inl (-2147483648, 2147483647), .inl (-2147483648, 2147483647), .inr (.inr (some (.inl 4))), .inr (.inr (some (.inl 5))), .inr (.inr (some (.inl 6))), .inl (0, 20), .inl (-2147483648, 2147483647), .inl (-2147483648, 2147483647)]), .inl (0, 20, -2147483648, 2147483647), .inl (0, 20, -2147483648, 2147483647), .inl (0, 20, -2147483648, 2147483647), .inr (4, [.inr (.inr (some (.inl 8))), .inr (.inr (some (.inl 9))), .inr (.inr (some (.inl 10))), .inr (.inr (some (.inl 11))), .inr (.inr (some (.inr 206))), .inl (-2147483648, 2147483647), .inl (-2147483648, 2147483647), .inl (-2147483648, 2147483647)]), .inl (0, 8, -2147483648, 2147483647), .inl (0, 8, -2147483648, 2147483647), .inl (0, 48, -2147483648, 2147483647), .inl (0, 48, -2147483648, 2147483647), .inr (6, [.inr (.inr (some (.inl 13))), .inr (.inr (some (.inl 14))), .inr (.inr (some (.inl 15))), .inr (.inr (some (.inl 16))), .inr (.inr (some (.inl 17))), .inr (.inr (some (.inr 203))), .inl (-2147483648, 2147483647), .inr (.inr (some (.inr 204)))]), .inl (1008, 8, -2147483648, 2147483647), .inl (1012, 8, -2147483648, 2147483647), .inl (1054, 384, 0, 1), .inl (1020, 48, -2147483648, 2147483647), .inl (1024, 48, -2147483648, 2147483647)]
def HY_post120C : List AC := hc_8b88427f46
set_option maxRecDepth 100000 in
theorem x_post120C {l : Launch} {n c T : Nat} (h1 : 1 ≤ n ∧ n ≤ 120) (hc : c ≤ 48) : conOkX (MetP l 6 yX11_post cX11_post 3 (some .int) 0 0) [nI n] HX_post120C HY_post120C (fun t => Nat.beq t 206 || Nat.beq t 263) (fun τ => decA (τ 204) 0 = nI c ∧ decA (τ 206) 0 = nI T) (fun τ τ' y => y = poY (ob (decA (τ 250))) n c T ∧ decA (τ' 206) 0 = nI (poT (ob (decA (τ 250))) n c T) ∧ ∃ F : Nat → Int32, (∀ i, i < 384 → F i = decA (τ 263) i) ∧ ∀ i, i < 384 → decA (τ' 263) i = poW (ob (decA (τ 250))) n c T F i) := by
  intro τ hΦ hP h hh
  have z := all2_cons hh
  clear hh
  obtain ⟨e0, h, rfl, g0, hh⟩ := z
  rcases e0 with ⟨t0, n0, f0⟩ | ⟨ci, fs⟩
  · exact g0.elim
  obtain ⟨rfl, gf⟩ := g0
  have z := all2_cons gf
  clear gf
  obtain ⟨v0, fs, rfl, q0, gf⟩ := z
  cases (q0 : v0 = .inr (some (.inl 1)))
  have z := all2_cons gf
  clear gf
  obtain ⟨v0, fs, rfl, q0, gf⟩ := z
  cases (q0 : v0 = .inr (some (.inl 12)))
  have z := all2_cons gf
  clear gf
  obtain ⟨v0, fs, rfl, q0, gf⟩ := z
  cases (q0 : v0 = .inr (some (.inl 7)))
  have z := all2_cons gf
  clear gf
  obtain ⟨v0, fs, rfl, q0, gf⟩ := z
  cases gT_r (τ := τ) (t := 0) (v := v0) rfl q0
  have z := all2_cons gf
  clear gf
  obtain ⟨v0, fs, rfl, q0, gf⟩ := z
  cases gT_r (τ := τ) (t := 1) (v := v0) rfl q0
  have z := all2_cons gf
  clear gf
  obtain ⟨v0, fs, rfl, q0, gf⟩ := z
  cases gT_r (τ := τ) (t := 2) (v := v0) rfl q0
  have z := all2_cons gf
  clear gf
  obtain ⟨v0, fs, rfl, q0, gf⟩ := z
  cases gT_r (τ := τ) (t := 3) (v := v0) rfl q0
  have z := all2_cons gf
  clear gf
  obtain ⟨v0, fs, rfl, q0, gf⟩ := z
  cases gT_r (τ := τ) (t := 4) (v := v0) rfl q0
  have z := all2_cons gf
  clear gf
  obtain ⟨v0, fs, rfl, q0, gf⟩ := z
  cases gT_r (τ := τ) (t := 5) (v := v0) rfl q0
  have z := all2_cons gf
  clear gf
  obtain ⟨v0, fs, rfl, q0, gf⟩ := z
  cases (q0 : v0 = .inr (some (.inl 3)))
  have z := all2_cons gf
  clear gf
  obtain ⟨v0, fs, rfl, q0, gf⟩ := z
  cases gT_r (τ := τ) (t := 6) (v := v0) rfl q0
  have z := all2_cons gf
  clear gf
  obtain ⟨v0, fs, rfl, q0, gf⟩ := z
  cases gT_r (τ := τ) (t := 7) (v := v0) rfl q0
  have z := all2_cons gf
  clear gf
  obtain ⟨v0, fs, rfl, q0, gf⟩ := z
  cases gT_r (τ := τ) (t := 8) (v := v0) rfl q0
  have z := all2_cons gf
  clear gf
  obtain ⟨v0, fs, rfl, q0, gf⟩ := z
  cases gT_r (τ := τ) (t := 9) (v := v0) rfl q0
  have z := all2_cons gf
  clear gf
  obtain ⟨v0, fs, rfl, q0, gf⟩ := z
  obtain ⟨HS_wasKept, rfl, e_HS_wasKept, b_HS_wasKept⟩ := gT_x (τ := τ) (t := 201) (v := v0) rfl q0
  cases fs with
  | cons _ _ => exact gf.elim
  | nil =>
    have z := all2_cons hh
    clear hh
    obtain ⟨e0, h, rfl, g0, hh⟩ := z
    rcases e0 with ⟨t0, n0, f0⟩ | ⟨ci, fs⟩
    · exact g0.elim
    obtain ⟨rfl, gf⟩ := g0
    have z := all2_cons gf
    clear gf
    obtain ⟨v0, fs, rfl, q0, gf⟩ := z
    cases (q0 : v0 = .inr (some (.inl 2)))
    have z := all2_cons gf
    clear gf
    obtain ⟨v0, fs, rfl, q0, gf⟩ := z
    obtain ⟨Tape_size, rfl, b_Tape_size⟩ := q0
    cases fs with
    | cons _ _ => exact gf.elim
    | nil =>
      have z := all2_cons hh
      clear hh
      obtain ⟨e1, h, rfl, g1, hh⟩ := z
      rcases e1 with ⟨t1, n1, Tape_bytes⟩ | ⟨ci, fs⟩
      rotate_left
      · exact g1.elim
      obtain ⟨et, en, b_Tape_bytes⟩ := g1
      cases (et : t1 = 0)
      cases en
      have z := all2_cons hh
      clear hh
      obtain ⟨e0, h, rfl, g0, hh⟩ := z
      rcases e0 with ⟨t0, n0, f0⟩ | ⟨ci, fs⟩
      · exact g0.elim
      obtain ⟨rfl, gf⟩ := g0
      have z := all2_cons gf
      clear gf
      obtain ⟨v0, fs, rfl, q0, gf⟩ := z
      cases (q0 : v0 = .inr (some (.inl 2)))
      have z := all2_cons gf
      clear gf
      obtain ⟨v0, fs, rfl, q0, gf⟩ := z
      obtain ⟨PR_end, rfl, b_PR_end⟩ := q0
      have z := all2_cons gf
      clear gf
      obtain ⟨v0, fs, rfl, q0, gf⟩ := z
      obtain ⟨PR_at, rfl, b_PR_at⟩ := q0
      have z := all2_cons gf
      clear gf
      obtain ⟨v0, fs, rfl, q0, gf⟩ := z
      obtain ⟨PR_ahead, rfl, b_PR_ahead⟩ := q0
      have z := all2_cons gf
      clear gf
      obtain ⟨v0, fs, rfl, q0, gf⟩ := z
      obtain ⟨PR_fault, rfl, b_PR_fault⟩ := q0
      have z := all2_cons gf
      clear gf
      obtain ⟨v0, fs, rfl, q0, gf⟩ := z
      cases (q0 : v0 = .inr (some (.inl 4)))
      have z := all2_cons gf
      clear gf
      obtain ⟨v0, fs, rfl, q0, gf⟩ := z
      cases (q0 : v0 = .inr (some (.inl 5)))
      have z := all2_cons gf
      clear gf
      obtain ⟨v0, fs, rfl, q0, gf⟩ := z
      cases (q0 : v0 = .inr (some (.inl 6)))
      have z := all2_cons gf
      clear gf
      obtain ⟨v0, fs, rfl, q0, gf⟩ := z
      obtain ⟨PR_lines, rfl, b_PR_lines⟩ := q0
      have z := all2_cons gf
      clear gf
      obtain ⟨v0, fs, rfl, q0, gf⟩ := z
      obtain ⟨PR_told, rfl, b_PR_told⟩ := q0
      have z := all2_cons gf
      clear gf
      obtain ⟨v0, fs, rfl, q0, gf⟩ := z
      obtain ⟨PR_stamps, rfl, b_PR_stamps⟩ := q0
      cases fs with
      | cons _ _ => exact gf.elim
      | nil =>
        have z := all2_cons hh
        clear hh
        obtain ⟨e1, h, rfl, g1, hh⟩ := z
        rcases e1 with ⟨t1, n1, PR_sign⟩ | ⟨ci, fs⟩
        rotate_left
        · exact g1.elim
        obtain ⟨et, en, b_PR_sign⟩ := g1
        cases (et : t1 = 0)
        cases en
        have z := all2_cons hh
        clear hh
        obtain ⟨e1, h, rfl, g1, hh⟩ := z
        rcases e1 with ⟨t1, n1, PR_letter⟩ | ⟨ci, fs⟩
        rotate_left
        · exact g1.elim
        obtain ⟨et, en, b_PR_letter⟩ := g1
        cases (et : t1 = 0)
        cases en
        have z := all2_cons hh
        clear hh
        obtain ⟨e1, h, rfl, g1, hh⟩ := z
        rcases e1 with ⟨t1, n1, PR_number⟩ | ⟨ci, fs⟩
        rotate_left
        · exact g1.elim
        obtain ⟨et, en, b_PR_number⟩ := g1
        cases (et : t1 = 0)
        cases en
        have z := all2_cons hh
        clear hh
        obtain ⟨e0, h, rfl, g0, hh⟩ := z
        rcases e0 with ⟨t0, n0, f0⟩ | ⟨ci, fs⟩
        · exact g0.elim
        obtain ⟨rfl, gf⟩ := g0
        have z := all2_cons gf
        clear gf
        obtain ⟨v0, fs, rfl, q0, gf⟩ := z
        cases (q0 : v0 = .inr (some (.inl 8)))
        have z := all2_cons gf
        clear gf
        obtain ⟨v0, fs, rfl, q0, gf⟩ := z
        cases (q0 : v0 = .inr (some (.inl 9)))
        have z := all2_cons gf
        clear gf
        obtain ⟨v0, fs, rfl, q0, gf⟩ := z
        cases (q0 : v0 = .inr (some (.inl 10)))
        have z := all2_cons gf
        clear gf
        obtain ⟨v0, fs, rfl, q0, gf⟩ := z
        cases (q0 : v0 = .inr (some (.inl 11)))
        have z := all2_cons gf
        clear gf
        obtain ⟨v0, fs, rfl, q0, gf⟩ := z
        obtain ⟨Now_told, rfl, e_Now_told, b_Now_told⟩ := gT_x (τ := τ) (t := 206) (v := v0) rfl q0
        have z := all2_cons gf
        clear gf
        obtain ⟨v0, fs, rfl, q0, gf⟩ := z
        obtain ⟨Now_walled, rfl, b_Now_walled⟩ := q0
        have z := all2_cons gf
        clear gf
        obtain ⟨v0, fs, rfl, q0, gf⟩ := z
        obtain ⟨Now_day, rfl, b_Now_day⟩ := q0
        have z := all2_cons gf
        clear gf
        obtain ⟨v0, fs, rfl, q0, gf⟩ := z
        obtain ⟨Now_drawState, rfl, b_Now_drawState⟩ := q0
        cases fs with
        | cons _ _ => exact gf.elim
        | nil =>
          have z := all2_cons hh
          clear hh
          obtain ⟨e1, h, rfl, g1, hh⟩ := z
          rcases e1 with ⟨t1, n1, Now_place⟩ | ⟨ci, fs⟩
          rotate_left
          · exact g1.elim
          obtain ⟨et, en, b_Now_place⟩ := g1
          cases (et : t1 = 0)
          cases en
          have z := all2_cons hh
          clear hh
          obtain ⟨e1, h, rfl, g1, hh⟩ := z
          rcases e1 with ⟨t1, n1, Now_paste⟩ | ⟨ci, fs⟩
          rotate_left
          · exact g1.elim
          obtain ⟨et, en, b_Now_paste⟩ := g1
          cases (et : t1 = 0)
          cases en
          have z := all2_cons hh
          clear hh
          obtain ⟨e1, h, rfl, g1, hh⟩ := z
          rcases e1 with ⟨t1, n1, Now_letter⟩ | ⟨ci, fs⟩
          rotate_left
          · exact g1.elim
          obtain ⟨et, en, b_Now_letter⟩ := g1
          cases (et : t1 = 0)
          cases en
          have z := all2_cons hh
          clear hh
          obtain ⟨e1, h, rfl, g1, hh⟩ := z
          rcases e1 with ⟨t1, n1, Now_used⟩ | ⟨ci, fs⟩
          rotate_left
          · exact g1.elim
          obtain ⟨et, en, b_Now_used⟩ := g1
          cases (et : t1 = 0)
          cases en
          have z := all2_cons hh
          clear hh
          obtain ⟨e0, h, rfl, g0, hh⟩ := z
          rcases e0 with ⟨t0, n0, f0⟩ | ⟨ci, fs⟩
          · exact g0.elim
          obtain ⟨rfl, gf⟩ := g0
          have z := all2_cons gf
          clear gf
          obtain ⟨v0, fs, rfl, q0, gf⟩ := z
          cases (q0 : v0 = .inr (some (.inl 13)))
          have z := all2_cons gf
          clear gf
          obtain ⟨v0, fs, rfl, q0, gf⟩ := z
          cases (q0 : v0 = .inr (some (.inl 14)))
          have z := all2_cons gf
          clear gf
          obtain ⟨v0, fs, rfl, q0, gf⟩ := z
          cases (q0 : v0 = .inr (some (.inl 15)))
          have z := all2_cons gf
          clear gf
          obtain ⟨v0, fs, rfl, q0, gf⟩ := z
          cases (q0 : v0 = .inr (some (.inl 16)))
          have z := all2_cons gf
          clear gf
          obtain ⟨v0, fs, rfl, q0, gf⟩ := z
          cases (q0 : v0 = .inr (some (.inl 17)))
          have z := all2_cons gf
          clear gf
          obtain ⟨v0, fs, rfl, q0, gf⟩ := z
          obtain ⟨Rep_toldMints, rfl, e_Rep_toldMints, b_Rep_toldMints⟩ := gT_x (τ := τ) (t := 203) (v := v0) rfl q0
          have z := all2_cons gf
          clear gf
          obtain ⟨v0, fs, rfl, q0, gf⟩ := z
          obtain ⟨Rep_walls, rfl, b_Rep_walls⟩ := q0
          have z := all2_cons gf
          clear gf
          obtain ⟨v0, fs, rfl, q0, gf⟩ := z
          obtain ⟨Rep_stamps, rfl, e_Rep_stamps, b_Rep_stamps⟩ := gT_x (τ := τ) (t := 204) (v := v0) rfl q0
          cases fs with
          | cons _ _ => exact gf.elim
          | nil =>
            have z := all2_cons hh
            clear hh
            obtain ⟨e1, h, rfl, g1, hh⟩ := z
            rcases e1 with ⟨t1, n1, Rep_mintX⟩ | ⟨ci, fs⟩
            rotate_left
            · exact g1.elim
            obtain ⟨et, en, b_Rep_mintX⟩ := g1
            cases (et : t1 = 0)
            cases en
            have z := all2_cons hh
            clear hh
            obtain ⟨e1, h, rfl, g1, hh⟩ := z
            rcases e1 with ⟨t1, n1, Rep_mintY⟩ | ⟨ci, fs⟩
            rotate_left
            · exact g1.elim
            obtain ⟨et, en, b_Rep_mintY⟩ := g1
            cases (et : t1 = 0)
            cases en
            have z := all2_cons hh
            clear hh
            obtain ⟨e1, h, rfl, g1, hh⟩ := z
            rcases e1 with ⟨t1, n1, Rep_wall⟩ | ⟨ci, fs⟩
            rotate_left
            · exact g1.elim
            obtain ⟨et, en, b_Rep_wall⟩ := g1
            cases (et : t1 = 2)
            cases en
            have z := all2_cons hh
            clear hh
            obtain ⟨e1, h, rfl, g1, hh⟩ := z
            rcases e1 with ⟨t1, n1, Rep_mintOf⟩ | ⟨ci, fs⟩
            rotate_left
            · exact g1.elim
            obtain ⟨et, en, b_Rep_mintOf⟩ := g1
            cases (et : t1 = 0)
            cases en
            have z := all2_cons hh
            clear hh
            obtain ⟨e1, h, rfl, g1, hh⟩ := z
            rcases e1 with ⟨t1, n1, Rep_grainsOf⟩ | ⟨ci, fs⟩
            rotate_left
            · exact g1.elim
            obtain ⟨et, en, b_Rep_grainsOf⟩ := g1
            cases (et : t1 = 0)
            cases en
            cases h with
            | cons _ _ => exact hh.elim
            | nil =>
              obtain ⟨s, hs, rfl⟩ := rng_n (x := Tape_size) (k := 260) (by omega) b_Tape_size.2
              have es := sz_n (c := s) (by omega)
              obtain ⟨rF, eF⟩ := rg_x rfl b_Tape_bytes
              obtain ⟨w1, w2⟩ := hP
              obtain rfl : Rep_stamps = nI c := e_Rep_stamps.trans w1
              obtain rfl : Now_told = nI T := e_Now_told.trans w2
              obtain ⟨rW, eW⟩ := rg_x rfl b_Rep_wall
              refine (c_X11_post (o := ob (decA (τ 250))) (n := n) (s := s) (c := c) (T := T) h1.1 (by omega) hs (by omega) hc (fun i hi => ob_ok (by omega) (eF i (by omega)) (rF i (by omega)))).mono (fun r h' hp => ?_)
              obtain ⟨at_, ah, fa, td, wd, ws, k, sg, lt, nu, pl, pa, le, us, hk, rfl, rfl⟩ := hp
              exact ⟨upL (upL τ 263 (encA (poW (ob (decA (τ 250))) n c T Rep_wall) 384)) 206 [some (natOf (nI (poT (ob (decA (τ 250))) n c T)))], _, hΦ, fun t ht => (upL_ne (ch_w ht rfl rfl).1).trans (upL_ne (ch_w ht rfl rfl).2), rfl, ⟨rfl, natOf_ok _, Rep_wall, eW, fun i hi => encA_ok hi⟩, ⟨⟨rfl, rfl, rfl, rfl, rfl, rfl, rfl, rfl, rfl, rfl, rfl, rfl, rfl, rfl, rfl, gT_mk rfl e_HS_wasKept b_HS_wasKept, trivial⟩, ⟨rfl, rfl, ⟨0, rfl, by decide, by decide⟩, trivial⟩, ⟨rfl, rfl, b_Tape_bytes⟩, ⟨rfl, rfl, topA_ok _, topA_ok _, topA_ok _, topA_ok _, rfl, rfl, rfl, ⟨_, rfl, nr20 hk⟩, topA_ok _, topA_ok _, trivial⟩, ⟨rfl, rfl, of_rg rg_top⟩, ⟨rfl, rfl, of_rg rg_top⟩, ⟨rfl, rfl, of_rg rg_top⟩, ⟨rfl, rfl, rfl, rfl, rfl, gT_mk (t := 206) rfl (natOf_ok _).symm ⟨i32lo _, i32hi _⟩, topA_ok _, ⟨_, rfl, b_Now_day⟩, ⟨_, rfl, b_Now_drawState⟩, trivial⟩, ⟨rfl, rfl, of_rg rg_top⟩, ⟨rfl, rfl, of_rg rg_top⟩, ⟨rfl, rfl, of_rg rg_top⟩, ⟨rfl, rfl, of_rg rg_top⟩, ⟨rfl, rfl, rfl, rfl, rfl, rfl, gT_mk rfl e_Rep_toldMints b_Rep_toldMints, topA_ok _, gT_mk rfl e_Rep_stamps b_Rep_stamps, trivial⟩, ⟨rfl, rfl, b_Rep_mintX⟩, ⟨rfl, rfl, b_Rep_mintY⟩, ⟨rfl, rfl, of_x rfl (rg_po rW) (fun i hi => (encA_ok hi).symm)⟩, ⟨rfl, rfl, b_Rep_mintOf⟩, ⟨rfl, rfl, b_Rep_grainsOf⟩, trivial⟩⟩

def HX_post120R : List AC := [.inr (11, [.inr (.inr (some (.inl 1))), .inr (.inr (some (.inl 2))), .inr (.inr (some (.inr 0))), .inr (.inr (some (.inr 1))), .inr (.inr (some (.inr 2))), .inr (.inr (some (.inr 3))), .inr (.inr (some (.inl 3))), .inr (.inr (some (.inl 4))), .inr (.inr (some (.inr 205))), .inr (.inr (some (.inl 5))), .inl (120, 260), .inl (0, 240), .inl (0, 240), .inl (-2147483648, 2147483647), .inl (-2147483648, 2147483647), .inl (-2147483648, 2147483647), .inl (0, 260), .inl (0, 260), .inl (0, 16), .inr (.inr (some (.inr 200))), .inr (.inr (some (.inr 4))), .inr (.inr (some (.inr 5))), .inr (.inr (some (.inr 6))), .inr (.inr (some (.inr 7))), .inr (.inr (some (.inr 8))), .inr (.inr (some (.inr 9))), .inr (.inr (some (.inr 10))), .inr (.inr (some (.inr 11))), .inr (.inr (some (.inr 12))), .inr (.inr (some (.inr 13))), .inr (.inr (some (.inr 14))), .inr (.inr (some (.inr 15))), .inr (.inr (some (.inr 16))), .inr (.inr (some (.inr 17))), .inr (.inr (some (.inr 18))), .inr (.inr (some (.inr 19))), .inr (.inr (some (.inr 20))), .inl (-2147483648, 2147483647), .inl (-2147483648, 2147483647), .inl (-2147483648, 2147483647), .inl (-2147483648, 2147483647), .inl (-2147483648, 2147483647), .inl (-2147483648, 2147483647), .inl (-2147483648, 2147483647), .inl (-2147483648, 2147483647), .inl (-2147483648, 2147483647), .inl (-2147483648, 2147483647), .inr (.inr (some (.inr 21))), .inr (.inr (some (.inr 22))), .inr (.inr (some (.inr 23))), .inr (.inr (some (.inr 24))), .inr (.inr (some (.inr 25))), .inr (.inr (some (.inr 201)))]), .inl (600, 130, 0, 383), .inl (3, 130, 0, 383), .inl (1058, 384, 0, 1), .inl (2, 384, 0, 1), .inl (1005, 260, -128, 127)]
def HY_post120R : List AC := hc_c75a9ccc1a
set_option maxRecDepth 100000 in
theorem x_post120R {l : Launch} {n c T : Nat} (h1 : 1 ≤ n ∧ n ≤ 120) (hc : c ≤ 48) : conOkX (MetP l 6 yX12_post cX12_post 4 (some .int) 0 0) [nI n] HX_post120R HY_post120R (fun t => Nat.beq t 208 || Nat.beq t 264) (fun τ => decA (τ 205) 0 = nI c ∧ tdM (decA (τ 208)) T) (fun τ τ' y => y = poY (ob (fun i => f_and (decA (τ 251) i) 255)) n c T ∧ tdM (decA (τ' 208)) (poT (ob (fun i => f_and (decA (τ 251) i) 255)) n c T) ∧ ∃ F : Nat → Int32, (∀ i, i < 384 → F i = decA (τ 264) i) ∧ ∀ i, i < 384 → decA (τ' 264) i = poW (ob (fun i => f_and (decA (τ 251) i) 255)) n c T F i) := by
  intro τ hΦ hP h hh
  have z := all2_cons hh
  clear hh
  obtain ⟨e0, h, rfl, g0, hh⟩ := z
  rcases e0 with ⟨t0, n0, f0⟩ | ⟨ci, fs⟩
  · exact g0.elim
  obtain ⟨rfl, gf⟩ := g0
  have z := all2_cons gf
  clear gf
  obtain ⟨v0, fs, rfl, q0, gf⟩ := z
  cases (q0 : v0 = .inr (some (.inl 1)))
  have z := all2_cons gf
  clear gf
  obtain ⟨v0, fs, rfl, q0, gf⟩ := z
  cases (q0 : v0 = .inr (some (.inl 2)))
  have z := all2_cons gf
  clear gf
  obtain ⟨v0, fs, rfl, q0, gf⟩ := z
  cases gT_r (τ := τ) (t := 0) (v := v0) rfl q0
  have z := all2_cons gf
  clear gf
  obtain ⟨v0, fs, rfl, q0, gf⟩ := z
  cases gT_r (τ := τ) (t := 1) (v := v0) rfl q0
  have z := all2_cons gf
  clear gf
  obtain ⟨v0, fs, rfl, q0, gf⟩ := z
  cases gT_r (τ := τ) (t := 2) (v := v0) rfl q0
  have z := all2_cons gf
  clear gf
  obtain ⟨v0, fs, rfl, q0, gf⟩ := z
  cases gT_r (τ := τ) (t := 3) (v := v0) rfl q0
  have z := all2_cons gf
  clear gf
  obtain ⟨v0, fs, rfl, q0, gf⟩ := z
  cases (q0 : v0 = .inr (some (.inl 3)))
  have z := all2_cons gf
  clear gf
  obtain ⟨v0, fs, rfl, q0, gf⟩ := z
  cases (q0 : v0 = .inr (some (.inl 4)))
  have z := all2_cons gf
  clear gf
  obtain ⟨v0, fs, rfl, q0, gf⟩ := z
  obtain ⟨M_stampMany, rfl, e_M_stampMany, b_M_stampMany⟩ := gT_x (τ := τ) (t := 205) (v := v0) rfl q0
  have z := all2_cons gf
  clear gf
  obtain ⟨v0, fs, rfl, q0, gf⟩ := z
  cases (q0 : v0 = .inr (some (.inl 5)))
  have z := all2_cons gf
  clear gf
  obtain ⟨v0, fs, rfl, q0, gf⟩ := z
  obtain ⟨M_taped, rfl, b_M_taped⟩ := q0
  have z := all2_cons gf
  clear gf
  obtain ⟨v0, fs, rfl, q0, gf⟩ := z
  obtain ⟨M_place0, rfl, b_M_place0⟩ := q0
  have z := all2_cons gf
  clear gf
  obtain ⟨v0, fs, rfl, q0, gf⟩ := z
  obtain ⟨M_length0, rfl, b_M_length0⟩ := q0
  have z := all2_cons gf
  clear gf
  obtain ⟨v0, fs, rfl, q0, gf⟩ := z
  obtain ⟨M_fault, rfl, b_M_fault⟩ := q0
  have z := all2_cons gf
  clear gf
  obtain ⟨v0, fs, rfl, q0, gf⟩ := z
  obtain ⟨M_number0, rfl, b_M_number0⟩ := q0
  have z := all2_cons gf
  clear gf
  obtain ⟨v0, fs, rfl, q0, gf⟩ := z
  obtain ⟨M_open, rfl, b_M_open⟩ := q0
  have z := all2_cons gf
  clear gf
  obtain ⟨v0, fs, rfl, q0, gf⟩ := z
  obtain ⟨M_codeMany, rfl, b_M_codeMany⟩ := q0
  have z := all2_cons gf
  clear gf
  obtain ⟨v0, fs, rfl, q0, gf⟩ := z
  obtain ⟨M_waiting, rfl, b_M_waiting⟩ := q0
  have z := all2_cons gf
  clear gf
  obtain ⟨v0, fs, rfl, q0, gf⟩ := z
  obtain ⟨M_saidMany, rfl, b_M_saidMany⟩ := q0
  have z := all2_cons gf
  clear gf
  obtain ⟨v0, fs, rfl, q0, gf⟩ := z
  obtain ⟨M_clauses, rfl, e_M_clauses, b_M_clauses⟩ := gT_x (τ := τ) (t := 200) (v := v0) rfl q0
  have z := all2_cons gf
  clear gf
  obtain ⟨v0, fs, rfl, q0, gf⟩ := z
  cases gT_r (τ := τ) (t := 4) (v := v0) rfl q0
  have z := all2_cons gf
  clear gf
  obtain ⟨v0, fs, rfl, q0, gf⟩ := z
  cases gT_r (τ := τ) (t := 5) (v := v0) rfl q0
  have z := all2_cons gf
  clear gf
  obtain ⟨v0, fs, rfl, q0, gf⟩ := z
  cases gT_r (τ := τ) (t := 6) (v := v0) rfl q0
  have z := all2_cons gf
  clear gf
  obtain ⟨v0, fs, rfl, q0, gf⟩ := z
  cases gT_r (τ := τ) (t := 7) (v := v0) rfl q0
  have z := all2_cons gf
  clear gf
  obtain ⟨v0, fs, rfl, q0, gf⟩ := z
  cases gT_r (τ := τ) (t := 8) (v := v0) rfl q0
  have z := all2_cons gf
  clear gf
  obtain ⟨v0, fs, rfl, q0, gf⟩ := z
  cases gT_r (τ := τ) (t := 9) (v := v0) rfl q0
  have z := all2_cons gf
  clear gf
  obtain ⟨v0, fs, rfl, q0, gf⟩ := z
  cases gT_r (τ := τ) (t := 10) (v := v0) rfl q0
  have z := all2_cons gf
  clear gf
  obtain ⟨v0, fs, rfl, q0, gf⟩ := z
  cases gT_r (τ := τ) (t := 11) (v := v0) rfl q0
  have z := all2_cons gf
  clear gf
  obtain ⟨v0, fs, rfl, q0, gf⟩ := z
  cases gT_r (τ := τ) (t := 12) (v := v0) rfl q0
  have z := all2_cons gf
  clear gf
  obtain ⟨v0, fs, rfl, q0, gf⟩ := z
  cases gT_r (τ := τ) (t := 13) (v := v0) rfl q0
  have z := all2_cons gf
  clear gf
  obtain ⟨v0, fs, rfl, q0, gf⟩ := z
  cases gT_r (τ := τ) (t := 14) (v := v0) rfl q0
  have z := all2_cons gf
  clear gf
  obtain ⟨v0, fs, rfl, q0, gf⟩ := z
  cases gT_r (τ := τ) (t := 15) (v := v0) rfl q0
  have z := all2_cons gf
  clear gf
  obtain ⟨v0, fs, rfl, q0, gf⟩ := z
  cases gT_r (τ := τ) (t := 16) (v := v0) rfl q0
  have z := all2_cons gf
  clear gf
  obtain ⟨v0, fs, rfl, q0, gf⟩ := z
  cases gT_r (τ := τ) (t := 17) (v := v0) rfl q0
  have z := all2_cons gf
  clear gf
  obtain ⟨v0, fs, rfl, q0, gf⟩ := z
  cases gT_r (τ := τ) (t := 18) (v := v0) rfl q0
  have z := all2_cons gf
  clear gf
  obtain ⟨v0, fs, rfl, q0, gf⟩ := z
  cases gT_r (τ := τ) (t := 19) (v := v0) rfl q0
  have z := all2_cons gf
  clear gf
  obtain ⟨v0, fs, rfl, q0, gf⟩ := z
  cases gT_r (τ := τ) (t := 20) (v := v0) rfl q0
  have z := all2_cons gf
  clear gf
  obtain ⟨v0, fs, rfl, q0, gf⟩ := z
  obtain ⟨M_newMany, rfl, b_M_newMany⟩ := q0
  have z := all2_cons gf
  clear gf
  obtain ⟨v0, fs, rfl, q0, gf⟩ := z
  obtain ⟨M_rounds, rfl, b_M_rounds⟩ := q0
  have z := all2_cons gf
  clear gf
  obtain ⟨v0, fs, rfl, q0, gf⟩ := z
  obtain ⟨M_stampFrom, rfl, b_M_stampFrom⟩ := q0
  have z := all2_cons gf
  clear gf
  obtain ⟨v0, fs, rfl, q0, gf⟩ := z
  obtain ⟨M_stampTimes, rfl, b_M_stampTimes⟩ := q0
  have z := all2_cons gf
  clear gf
  obtain ⟨v0, fs, rfl, q0, gf⟩ := z
  obtain ⟨M_lines, rfl, b_M_lines⟩ := q0
  have z := all2_cons gf
  clear gf
  obtain ⟨v0, fs, rfl, q0, gf⟩ := z
  obtain ⟨M_spot0, rfl, b_M_spot0⟩ := q0
  have z := all2_cons gf
  clear gf
  obtain ⟨v0, fs, rfl, q0, gf⟩ := z
  obtain ⟨M_pullAcross, rfl, b_M_pullAcross⟩ := q0
  have z := all2_cons gf
  clear gf
  obtain ⟨v0, fs, rfl, q0, gf⟩ := z
  obtain ⟨M_pullAlong, rfl, b_M_pullAlong⟩ := q0
  have z := all2_cons gf
  clear gf
  obtain ⟨v0, fs, rfl, q0, gf⟩ := z
  obtain ⟨M_stepsNow, rfl, b_M_stepsNow⟩ := q0
  have z := all2_cons gf
  clear gf
  obtain ⟨v0, fs, rfl, q0, gf⟩ := z
  obtain ⟨M_fallenNow, rfl, b_M_fallenNow⟩ := q0
  have z := all2_cons gf
  clear gf
  obtain ⟨v0, fs, rfl, q0, gf⟩ := z
  cases gT_r (τ := τ) (t := 21) (v := v0) rfl q0
  have z := all2_cons gf
  clear gf
  obtain ⟨v0, fs, rfl, q0, gf⟩ := z
  cases gT_r (τ := τ) (t := 22) (v := v0) rfl q0
  have z := all2_cons gf
  clear gf
  obtain ⟨v0, fs, rfl, q0, gf⟩ := z
  cases gT_r (τ := τ) (t := 23) (v := v0) rfl q0
  have z := all2_cons gf
  clear gf
  obtain ⟨v0, fs, rfl, q0, gf⟩ := z
  cases gT_r (τ := τ) (t := 24) (v := v0) rfl q0
  have z := all2_cons gf
  clear gf
  obtain ⟨v0, fs, rfl, q0, gf⟩ := z
  cases gT_r (τ := τ) (t := 25) (v := v0) rfl q0
  have z := all2_cons gf
  clear gf
  obtain ⟨v0, fs, rfl, q0, gf⟩ := z
  obtain ⟨M_isKept, rfl, e_M_isKept, b_M_isKept⟩ := gT_x (τ := τ) (t := 201) (v := v0) rfl q0
  cases fs with
  | cons _ _ => exact gf.elim
  | nil =>
    have z := all2_cons hh
    clear hh
    obtain ⟨e1, h, rfl, g1, hh⟩ := z
    rcases e1 with ⟨t1, n1, M_now⟩ | ⟨ci, fs⟩
    rotate_left
    · exact g1.elim
    obtain ⟨et, en, b_M_now⟩ := g1
    cases (et : t1 = 0)
    cases en
    have z := all2_cons hh
    clear hh
    obtain ⟨e1, h, rfl, g1, hh⟩ := z
    rcases e1 with ⟨t1, n1, M_aside⟩ | ⟨ci, fs⟩
    rotate_left
    · exact g1.elim
    obtain ⟨et, en, b_M_aside⟩ := g1
    cases (et : t1 = 0)
    cases en
    have z := all2_cons hh
    clear hh
    obtain ⟨e1, h, rfl, g1, hh⟩ := z
    rcases e1 with ⟨t1, n1, M_isWall⟩ | ⟨ci, fs⟩
    rotate_left
    · exact g1.elim
    obtain ⟨et, en, b_M_isWall⟩ := g1
    cases (et : t1 = 2)
    cases en
    have z := all2_cons hh
    clear hh
    obtain ⟨e1, h, rfl, g1, hh⟩ := z
    rcases e1 with ⟨t1, n1, M_wasWall⟩ | ⟨ci, fs⟩
    rotate_left
    · exact g1.elim
    obtain ⟨et, en, b_M_wasWall⟩ := g1
    cases (et : t1 = 2)
    cases en
    have z := all2_cons hh
    clear hh
    obtain ⟨e1, h, rfl, g1, hh⟩ := z
    rcases e1 with ⟨t1, n1, M_tape⟩ | ⟨ci, fs⟩
    rotate_left
    · exact g1.elim
    obtain ⟨et, en, b_M_tape⟩ := g1
    cases (et : t1 = 1)
    cases en
    cases h with
    | cons _ _ => exact hh.elim
    | nil =>
      obtain ⟨s, hs, rfl⟩ := rng_n (x := M_taped) (k := 260) (by omega) b_M_taped.2
      have es := sz_n (c := s) (by omega)
      obtain ⟨rF, eF⟩ := rg_x rfl b_M_tape
      obtain ⟨w1, w2⟩ := hP
      obtain rfl : M_stampMany = nI c := e_M_stampMany.trans w1
      have sg := seg6_of (t := 600) rfl rfl b_M_now
      obtain ⟨rW, eW⟩ := rg_x rfl b_M_isWall
      refine (x_X12_post (b := ob (fun i => f_and (decA (τ 251) i) 255)) (n := n) (s := s) (c := c) (T := T) h1.1 (by omega) hs (by omega) hc (fun i hi => ob_ok (f := fun i => f_and (decA (τ 251) i) 255) (F := fun i => f_and (M_tape i) 255) (by omega) (by show f_and (M_tape i) 255 = f_and (decA (τ 251) i) 255; rw [eF i (by omega)]) oct_rng) (fun i hi => (sg.2 i hi).trans (w2 i hi)) sg.1 rW (rg_of2 b_M_wasWall)).mono (fun r h' hp => ?_)
      obtain ⟨nw, as, wl, ww, pp, f, w, sp, ln, rfl, kT, kW, k1, k2, k3, k4, k5, rfl⟩ := hp
      exact ⟨upL (upL τ 264 (encA wl 384)) 208 (encA nw 8), _, hΦ, fun t ht => (upL_ne (ch_w ht rfl rfl).1).trans (upL_ne (ch_w ht rfl rfl).2), rfl, ⟨rfl, fun i hi => (encA_ok hi).trans (kT i hi), M_isWall, eW, fun i hi => (encA_ok hi).trans (kW i hi)⟩, ⟨⟨rfl, rfl, rfl, rfl, rfl, rfl, rfl, rfl, rfl, gT_mk rfl e_M_stampMany b_M_stampMany, rfl, ⟨0, rfl, by decide, by decide⟩, ⟨_, rfl, k5⟩, ⟨_, rfl, nr240 (by omega)⟩, topA_ok _, topA_ok _, ⟨_, rfl, b_M_open⟩, ⟨0, rfl, by decide, by decide⟩, ⟨_, rfl, b_M_waiting⟩, ⟨0, rfl, by decide, by decide⟩, gT_mk rfl e_M_clauses b_M_clauses, rfl, rfl, rfl, rfl, rfl, rfl, rfl, rfl, rfl, rfl, rfl, rfl, rfl, rfl, rfl, rfl, rfl, ⟨_, rfl, b_M_newMany⟩, ⟨_, rfl, b_M_rounds⟩, ⟨_, rfl, b_M_stampFrom⟩, ⟨_, rfl, b_M_stampTimes⟩, topA_ok _, topA_ok _, ⟨_, rfl, b_M_pullAcross⟩, ⟨_, rfl, b_M_pullAlong⟩, ⟨_, rfl, b_M_stepsNow⟩, ⟨_, rfl, b_M_fallenNow⟩, rfl, rfl, rfl, rfl, rfl, gT_mk rfl e_M_isKept b_M_isKept, trivial⟩, ⟨rfl, rfl, of_seg6 ⟨k1, fun i hi => (encA_ok hi).symm⟩⟩, ⟨rfl, rfl, of_seg k2⟩, ⟨rfl, rfl, of_x rfl k3 (fun i hi => (encA_ok hi).symm)⟩, ⟨rfl, rfl, of_rg2 k4⟩, ⟨rfl, rfl, b_M_tape⟩, trivial⟩⟩

def HX_copyK : List AC := [.inr (4, [.inr (.inr (some (.inl 1))), .inr (.inr (some (.inl 2))), .inr (.inr (some (.inl 3))), .inr (.inr (some (.inl 4))), .inr (.inr (some (.inr 207))), .inl (-2147483648, 2147483647), .inl (-2147483648, 2147483647), .inl (-2147483648, 2147483647)]), .inl (0, 8, -2147483648, 2147483647), .inl (0, 8, -2147483648, 2147483647), .inl (0, 48, -2147483648, 2147483647), .inl (0, 48, -2147483648, 2147483647), .inr (4, [.inr (.inr (some (.inl 6))), .inr (.inr (some (.inl 7))), .inr (.inr (some (.inl 8))), .inr (.inr (some (.inl 9))), .inr (.inr (some (.inr 206))), .inl (-2147483648, 2147483647), .inl (-2147483648, 2147483647), .inl (-2147483648, 2147483647)]), .inl (0, 8, -2147483648, 2147483647), .inl (0, 8, -2147483648, 2147483647), .inl (0, 48, -2147483648, 2147483647), .inl (0, 48, -2147483648, 2147483647)]
set_option maxRecDepth 100000 in
theorem z_copyK {l : Launch} : conOkZ (MetP l 1 yX4_copyFrom cX4_copyFrom 2 none 0 0) [0, 5] [] HX_copyK HX_copyK (fun t => Nat.beq t 207) (fun _ => True) (fun τ τ' y => y = none ∧ decA (τ' 207) 0 = decA (τ 206) 0) := by
  intro τ hΦ hP h hh
  have z := all2_cons hh
  clear hh
  obtain ⟨e0, h, rfl, g0, hh⟩ := z
  rcases e0 with ⟨t0, n0, f0⟩ | ⟨ci, fs⟩
  · exact g0.elim
  obtain ⟨rfl, gf⟩ := g0
  have z := all2_cons gf
  clear gf
  obtain ⟨v0, fs, rfl, q0, gf⟩ := z
  cases (q0 : v0 = .inr (some (.inl 1)))
  have z := all2_cons gf
  clear gf
  obtain ⟨v0, fs, rfl, q0, gf⟩ := z
  cases (q0 : v0 = .inr (some (.inl 2)))
  have z := all2_cons gf
  clear gf
  obtain ⟨v0, fs, rfl, q0, gf⟩ := z
  cases (q0 : v0 = .inr (some (.inl 3)))
  have z := all2_cons gf
  clear gf
  obtain ⟨v0, fs, rfl, q0, gf⟩ := z
  cases (q0 : v0 = .inr (some (.inl 4)))
  have z := all2_cons gf
  clear gf
  obtain ⟨v0, fs, rfl, q0, gf⟩ := z
  obtain ⟨Let_told, rfl, e_Let_told, b_Let_told⟩ := gT_x (τ := τ) (t := 207) (v := v0) rfl q0
  have z := all2_cons gf
  clear gf
  obtain ⟨v0, fs, rfl, q0, gf⟩ := z
  obtain ⟨Let_walled, rfl, b_Let_walled⟩ := q0
  have z := all2_cons gf
  clear gf
  obtain ⟨v0, fs, rfl, q0, gf⟩ := z
  obtain ⟨Let_day, rfl, b_Let_day⟩ := q0
  have z := all2_cons gf
  clear gf
  obtain ⟨v0, fs, rfl, q0, gf⟩ := z
  obtain ⟨Let_drawState, rfl, b_Let_drawState⟩ := q0
  cases fs with
  | cons _ _ => exact gf.elim
  | nil =>
    have z := all2_cons hh
    clear hh
    obtain ⟨e1, h, rfl, g1, hh⟩ := z
    rcases e1 with ⟨t1, n1, Let_place⟩ | ⟨ci, fs⟩
    rotate_left
    · exact g1.elim
    obtain ⟨et, en, b_Let_place⟩ := g1
    cases (et : t1 = 0)
    cases en
    have z := all2_cons hh
    clear hh
    obtain ⟨e1, h, rfl, g1, hh⟩ := z
    rcases e1 with ⟨t1, n1, Let_paste⟩ | ⟨ci, fs⟩
    rotate_left
    · exact g1.elim
    obtain ⟨et, en, b_Let_paste⟩ := g1
    cases (et : t1 = 0)
    cases en
    have z := all2_cons hh
    clear hh
    obtain ⟨e1, h, rfl, g1, hh⟩ := z
    rcases e1 with ⟨t1, n1, Let_letter⟩ | ⟨ci, fs⟩
    rotate_left
    · exact g1.elim
    obtain ⟨et, en, b_Let_letter⟩ := g1
    cases (et : t1 = 0)
    cases en
    have z := all2_cons hh
    clear hh
    obtain ⟨e1, h, rfl, g1, hh⟩ := z
    rcases e1 with ⟨t1, n1, Let_used⟩ | ⟨ci, fs⟩
    rotate_left
    · exact g1.elim
    obtain ⟨et, en, b_Let_used⟩ := g1
    cases (et : t1 = 0)
    cases en
    have z := all2_cons hh
    clear hh
    obtain ⟨e0, h, rfl, g0, hh⟩ := z
    rcases e0 with ⟨t0, n0, f0⟩ | ⟨ci, fs⟩
    · exact g0.elim
    obtain ⟨rfl, gf⟩ := g0
    have z := all2_cons gf
    clear gf
    obtain ⟨v0, fs, rfl, q0, gf⟩ := z
    cases (q0 : v0 = .inr (some (.inl 6)))
    have z := all2_cons gf
    clear gf
    obtain ⟨v0, fs, rfl, q0, gf⟩ := z
    cases (q0 : v0 = .inr (some (.inl 7)))
    have z := all2_cons gf
    clear gf
    obtain ⟨v0, fs, rfl, q0, gf⟩ := z
    cases (q0 : v0 = .inr (some (.inl 8)))
    have z := all2_cons gf
    clear gf
    obtain ⟨v0, fs, rfl, q0, gf⟩ := z
    cases (q0 : v0 = .inr (some (.inl 9)))
    have z := all2_cons gf
    clear gf
    obtain ⟨v0, fs, rfl, q0, gf⟩ := z
    obtain ⟨Oth_told, rfl, e_Oth_told, b_Oth_told⟩ := gT_x (τ := τ) (t := 206) (v := v0) rfl q0
    have z := all2_cons gf
    clear gf
    obtain ⟨v0, fs, rfl, q0, gf⟩ := z
    obtain ⟨Oth_walled, rfl, b_Oth_walled⟩ := q0
    have z := all2_cons gf
    clear gf
    obtain ⟨v0, fs, rfl, q0, gf⟩ := z
    obtain ⟨Oth_day, rfl, b_Oth_day⟩ := q0
    have z := all2_cons gf
    clear gf
    obtain ⟨v0, fs, rfl, q0, gf⟩ := z
    obtain ⟨Oth_drawState, rfl, b_Oth_drawState⟩ := q0
    cases fs with
    | cons _ _ => exact gf.elim
    | nil =>
      have z := all2_cons hh
      clear hh
      obtain ⟨e1, h, rfl, g1, hh⟩ := z
      rcases e1 with ⟨t1, n1, Oth_place⟩ | ⟨ci, fs⟩
      rotate_left
      · exact g1.elim
      obtain ⟨et, en, b_Oth_place⟩ := g1
      cases (et : t1 = 0)
      cases en
      have z := all2_cons hh
      clear hh
      obtain ⟨e1, h, rfl, g1, hh⟩ := z
      rcases e1 with ⟨t1, n1, Oth_paste⟩ | ⟨ci, fs⟩
      rotate_left
      · exact g1.elim
      obtain ⟨et, en, b_Oth_paste⟩ := g1
      cases (et : t1 = 0)
      cases en
      have z := all2_cons hh
      clear hh
      obtain ⟨e1, h, rfl, g1, hh⟩ := z
      rcases e1 with ⟨t1, n1, Oth_letter⟩ | ⟨ci, fs⟩
      rotate_left
      · exact g1.elim
      obtain ⟨et, en, b_Oth_letter⟩ := g1
      cases (et : t1 = 0)
      cases en
      have z := all2_cons hh
      clear hh
      obtain ⟨e1, h, rfl, g1, hh⟩ := z
      rcases e1 with ⟨t1, n1, Oth_used⟩ | ⟨ci, fs⟩
      rotate_left
      · exact g1.elim
      obtain ⟨et, en, b_Oth_used⟩ := g1
      cases (et : t1 = 0)
      cases en
      cases h with
      | cons _ _ => exact hh.elim
      | nil =>
        refine c_X4_copyFrom.mono (fun r h' hp => ?_)
        obtain ⟨rfl, rfl⟩ := hp
        exact ⟨upL τ 207 [some (natOf Oth_told)], none, hΦ, fun t ht => upL_ne (ch_ne ht rfl), rfl, ⟨rfl, (natOf_ok _).trans e_Oth_told⟩, ⟨⟨rfl, rfl, rfl, rfl, rfl, gT_mk (t := 207) rfl (natOf_ok _).symm ⟨i32lo _, i32hi _⟩, topA_ok _, topA_ok _, topA_ok _, trivial⟩, ⟨rfl, rfl, of_rg rg_top⟩, ⟨rfl, rfl, of_rg rg_top⟩, ⟨rfl, rfl, of_rg rg_top⟩, ⟨rfl, rfl, of_rg rg_top⟩, ⟨rfl, rfl, rfl, rfl, rfl, gT_mk rfl e_Oth_told b_Oth_told, ⟨_, rfl, b_Oth_walled⟩, ⟨_, rfl, b_Oth_day⟩, ⟨_, rfl, b_Oth_drawState⟩, trivial⟩, ⟨rfl, rfl, b_Oth_place⟩, ⟨rfl, rfl, b_Oth_paste⟩, ⟨rfl, rfl, b_Oth_letter⟩, ⟨rfl, rfl, b_Oth_used⟩, trivial⟩⟩

def HX_copyU : List AC := [.inr (4, [.inr (.inr (some (.inl 1))), .inr (.inr (some (.inl 2))), .inr (.inr (some (.inl 3))), .inr (.inr (some (.inl 4))), .inr (.inr (some (.inr 206))), .inl (-2147483648, 2147483647), .inl (-2147483648, 2147483647), .inl (-2147483648, 2147483647)]), .inl (0, 8, -2147483648, 2147483647), .inl (0, 8, -2147483648, 2147483647), .inl (0, 48, -2147483648, 2147483647), .inl (0, 48, -2147483648, 2147483647), .inr (4, [.inr (.inr (some (.inl 6))), .inr (.inr (some (.inl 7))), .inr (.inr (some (.inl 8))), .inr (.inr (some (.inl 9))), .inr (.inr (some (.inr 207))), .inl (-2147483648, 2147483647), .inl (-2147483648, 2147483647), .inl (-2147483648, 2147483647)]), .inl (0, 8, -2147483648, 2147483647), .inl (0, 8, -2147483648, 2147483647), .inl (0, 48, -2147483648, 2147483647), .inl (0, 48, -2147483648, 2147483647)]
set_option maxRecDepth 100000 in
theorem z_copyU {l : Launch} : conOkZ (MetP l 1 yX4_copyFrom cX4_copyFrom 2 none 0 0) [0, 5] [] HX_copyU HX_copyU (fun t => Nat.beq t 206) (fun _ => True) (fun τ τ' y => y = none ∧ decA (τ' 206) 0 = decA (τ 207) 0) := by
  intro τ hΦ hP h hh
  have z := all2_cons hh
  clear hh
  obtain ⟨e0, h, rfl, g0, hh⟩ := z
  rcases e0 with ⟨t0, n0, f0⟩ | ⟨ci, fs⟩
  · exact g0.elim
  obtain ⟨rfl, gf⟩ := g0
  have z := all2_cons gf
  clear gf
  obtain ⟨v0, fs, rfl, q0, gf⟩ := z
  cases (q0 : v0 = .inr (some (.inl 1)))
  have z := all2_cons gf
  clear gf
  obtain ⟨v0, fs, rfl, q0, gf⟩ := z
  cases (q0 : v0 = .inr (some (.inl 2)))
  have z := all2_cons gf
  clear gf
  obtain ⟨v0, fs, rfl, q0, gf⟩ := z
  cases (q0 : v0 = .inr (some (.inl 3)))
  have z := all2_cons gf
  clear gf
  obtain ⟨v0, fs, rfl, q0, gf⟩ := z
  cases (q0 : v0 = .inr (some (.inl 4)))
  have z := all2_cons gf
  clear gf
  obtain ⟨v0, fs, rfl, q0, gf⟩ := z
  obtain ⟨Let_told, rfl, e_Let_told, b_Let_told⟩ := gT_x (τ := τ) (t := 206) (v := v0) rfl q0
  have z := all2_cons gf
  clear gf
  obtain ⟨v0, fs, rfl, q0, gf⟩ := z
  obtain ⟨Let_walled, rfl, b_Let_walled⟩ := q0
  have z := all2_cons gf
  clear gf
  obtain ⟨v0, fs, rfl, q0, gf⟩ := z
  obtain ⟨Let_day, rfl, b_Let_day⟩ := q0
  have z := all2_cons gf
  clear gf
  obtain ⟨v0, fs, rfl, q0, gf⟩ := z
  obtain ⟨Let_drawState, rfl, b_Let_drawState⟩ := q0
  cases fs with
  | cons _ _ => exact gf.elim
  | nil =>
    have z := all2_cons hh
    clear hh
    obtain ⟨e1, h, rfl, g1, hh⟩ := z
    rcases e1 with ⟨t1, n1, Let_place⟩ | ⟨ci, fs⟩
    rotate_left
    · exact g1.elim
    obtain ⟨et, en, b_Let_place⟩ := g1
    cases (et : t1 = 0)
    cases en
    have z := all2_cons hh
    clear hh
    obtain ⟨e1, h, rfl, g1, hh⟩ := z
    rcases e1 with ⟨t1, n1, Let_paste⟩ | ⟨ci, fs⟩
    rotate_left
    · exact g1.elim
    obtain ⟨et, en, b_Let_paste⟩ := g1
    cases (et : t1 = 0)
    cases en
    have z := all2_cons hh
    clear hh
    obtain ⟨e1, h, rfl, g1, hh⟩ := z
    rcases e1 with ⟨t1, n1, Let_letter⟩ | ⟨ci, fs⟩
    rotate_left
    · exact g1.elim
    obtain ⟨et, en, b_Let_letter⟩ := g1
    cases (et : t1 = 0)
    cases en
    have z := all2_cons hh
    clear hh
    obtain ⟨e1, h, rfl, g1, hh⟩ := z
    rcases e1 with ⟨t1, n1, Let_used⟩ | ⟨ci, fs⟩
    rotate_left
    · exact g1.elim
    obtain ⟨et, en, b_Let_used⟩ := g1
    cases (et : t1 = 0)
    cases en
    have z := all2_cons hh
    clear hh
    obtain ⟨e0, h, rfl, g0, hh⟩ := z
    rcases e0 with ⟨t0, n0, f0⟩ | ⟨ci, fs⟩
    · exact g0.elim
    obtain ⟨rfl, gf⟩ := g0
    have z := all2_cons gf
    clear gf
    obtain ⟨v0, fs, rfl, q0, gf⟩ := z
    cases (q0 : v0 = .inr (some (.inl 6)))
    have z := all2_cons gf
    clear gf
    obtain ⟨v0, fs, rfl, q0, gf⟩ := z
    cases (q0 : v0 = .inr (some (.inl 7)))
    have z := all2_cons gf
    clear gf
    obtain ⟨v0, fs, rfl, q0, gf⟩ := z
    cases (q0 : v0 = .inr (some (.inl 8)))
    have z := all2_cons gf
    clear gf
    obtain ⟨v0, fs, rfl, q0, gf⟩ := z
    cases (q0 : v0 = .inr (some (.inl 9)))
    have z := all2_cons gf
    clear gf
    obtain ⟨v0, fs, rfl, q0, gf⟩ := z
    obtain ⟨Oth_told, rfl, e_Oth_told, b_Oth_told⟩ := gT_x (τ := τ) (t := 207) (v := v0) rfl q0
    have z := all2_cons gf
    clear gf
    obtain ⟨v0, fs, rfl, q0, gf⟩ := z
    obtain ⟨Oth_walled, rfl, b_Oth_walled⟩ := q0
    have z := all2_cons gf
    clear gf
    obtain ⟨v0, fs, rfl, q0, gf⟩ := z
    obtain ⟨Oth_day, rfl, b_Oth_day⟩ := q0
    have z := all2_cons gf
    clear gf
    obtain ⟨v0, fs, rfl, q0, gf⟩ := z
    obtain ⟨Oth_drawState, rfl, b_Oth_drawState⟩ := q0
    cases fs with
    | cons _ _ => exact gf.elim
    | nil =>
      have z := all2_cons hh
      clear hh
      obtain ⟨e1, h, rfl, g1, hh⟩ := z
      rcases e1 with ⟨t1, n1, Oth_place⟩ | ⟨ci, fs⟩
      rotate_left
      · exact g1.elim
      obtain ⟨et, en, b_Oth_place⟩ := g1
      cases (et : t1 = 0)
      cases en
      have z := all2_cons hh
      clear hh
      obtain ⟨e1, h, rfl, g1, hh⟩ := z
      rcases e1 with ⟨t1, n1, Oth_paste⟩ | ⟨ci, fs⟩
      rotate_left
      · exact g1.elim
      obtain ⟨et, en, b_Oth_paste⟩ := g1
      cases (et : t1 = 0)
      cases en
      have z := all2_cons hh
      clear hh
      obtain ⟨e1, h, rfl, g1, hh⟩ := z
      rcases e1 with ⟨t1, n1, Oth_letter⟩ | ⟨ci, fs⟩
      rotate_left
      · exact g1.elim
      obtain ⟨et, en, b_Oth_letter⟩ := g1
      cases (et : t1 = 0)
      cases en
      have z := all2_cons hh
      clear hh
      obtain ⟨e1, h, rfl, g1, hh⟩ := z
      rcases e1 with ⟨t1, n1, Oth_used⟩ | ⟨ci, fs⟩
      rotate_left
      · exact g1.elim
      obtain ⟨et, en, b_Oth_used⟩ := g1
      cases (et : t1 = 0)
      cases en
      cases h with
      | cons _ _ => exact hh.elim
      | nil =>
        refine c_X4_copyFrom.mono (fun r h' hp => ?_)
        obtain ⟨rfl, rfl⟩ := hp
        exact ⟨upL τ 206 [some (natOf Oth_told)], none, hΦ, fun t ht => upL_ne (ch_ne ht rfl), rfl, ⟨rfl, (natOf_ok _).trans e_Oth_told⟩, ⟨⟨rfl, rfl, rfl, rfl, rfl, gT_mk (t := 206) rfl (natOf_ok _).symm ⟨i32lo _, i32hi _⟩, topA_ok _, topA_ok _, topA_ok _, trivial⟩, ⟨rfl, rfl, of_rg rg_top⟩, ⟨rfl, rfl, of_rg rg_top⟩, ⟨rfl, rfl, of_rg rg_top⟩, ⟨rfl, rfl, of_rg rg_top⟩, ⟨rfl, rfl, rfl, rfl, rfl, gT_mk rfl e_Oth_told b_Oth_told, ⟨_, rfl, b_Oth_walled⟩, ⟨_, rfl, b_Oth_day⟩, ⟨_, rfl, b_Oth_drawState⟩, trivial⟩, ⟨rfl, rfl, b_Oth_place⟩, ⟨rfl, rfl, b_Oth_paste⟩, ⟨rfl, rfl, b_Oth_letter⟩, ⟨rfl, rfl, b_Oth_used⟩, trivial⟩⟩

def HX_keepC : List AC := [.inr (10, [.inr (.inr (some (.inr 0))), .inr (.inr (some (.inr 1))), .inr (.inr (some (.inl 1))), .inr (.inr (some (.inl 6))), .inr (.inr (some (.inr 2))), .inr (.inr (some (.inr 3))), .inr (.inr (some (.inr 4))), .inr (.inr (some (.inr 5))), .inr (.inr (some (.inr 6))), .inr (.inr (some (.inr 7))), .inr (.inr (some (.inr 8))), .inr (.inr (some (.inr 9))), .inr (.inr (some (.inr 10))), .inr (.inr (some (.inr 11))), .inr (.inr (some (.inr 201)))]), .inr (4, [.inr (.inr (some (.inl 2))), .inr (.inr (some (.inl 3))), .inr (.inr (some (.inl 4))), .inr (.inr (some (.inl 5))), .inr (.inr (some (.inr 206))), .inl (-2147483648, 2147483647), .inl (-2147483648, 2147483647), .inl (-2147483648, 2147483647)]), .inl (0, 8, -2147483648, 2147483647), .inl (0, 8, -2147483648, 2147483647), .inl (0, 48, -2147483648, 2147483647), .inl (0, 48, -2147483648, 2147483647), .inr (4, [.inr (.inr (some (.inl 7))), .inr (.inr (some (.inl 8))), .inr (.inr (some (.inl 9))), .inr (.inr (some (.inl 10))), .inr (.inr (some (.inr 207))), .inl (-2147483648, 2147483647), .inl (-2147483648, 2147483647), .inl (-2147483648, 2147483647)]), .inl (0, 8, -2147483648, 2147483647), .inl (0, 8, -2147483648, 2147483647), .inl (0, 48, -2147483648, 2147483647), .inl (0, 48, -2147483648, 2147483647)]
def HY_keepC : List AC := [.inr (10, [.inr (.inr (some (.inr 0))), .inr (.inr (some (.inr 1))), .inr (.inr (some (.inl 1))), .inr (.inr (some (.inl 6))), .inr (.inr (some (.inr 2))), .inr (.inr (some (.inr 3))), .inr (.inr (some (.inr 4))), .inr (.inr (some (.inr 5))), .inr (.inr (some (.inr 6))), .inr (.inr (some (.inr 7))), .inr (.inr (some (.inr 8))), .inr (.inr (some (.inr 9))), .inr (.inr (some (.inr 10))), .inr (.inr (some (.inr 11))), .inl (1, 1)]), .inr (4, [.inr (.inr (some (.inl 2))), .inr (.inr (some (.inl 3))), .inr (.inr (some (.inl 4))), .inr (.inr (some (.inl 5))), .inr (.inr (some (.inr 206))), .inl (-2147483648, 2147483647), .inl (-2147483648, 2147483647), .inl (-2147483648, 2147483647)]), .inl (0, 8, -2147483648, 2147483647), .inl (0, 8, -2147483648, 2147483647), .inl (0, 48, -2147483648, 2147483647), .inl (0, 48, -2147483648, 2147483647), .inr (4, [.inr (.inr (some (.inl 7))), .inr (.inr (some (.inl 8))), .inr (.inr (some (.inl 9))), .inr (.inr (some (.inl 10))), .inr (.inr (some (.inr 207))), .inl (-2147483648, 2147483647), .inl (-2147483648, 2147483647), .inl (-2147483648, 2147483647)]), .inl (0, 8, -2147483648, 2147483647), .inl (0, 8, -2147483648, 2147483647), .inl (0, 48, -2147483648, 2147483647), .inl (0, 48, -2147483648, 2147483647)]
set_option maxRecDepth 100000 in
theorem x_keepC {l : Launch} : conOkX (MetP l 2 yX11_keep cX11_keep 1 (some .int) 0 0) [] HX_keepC HY_keepC (fun t => Nat.beq t 207) (fun _ => True) (fun τ τ' _ => decA (τ' 207) 0 = decA (τ 206) 0) := by
  intro τ hΦ hP h hh
  have z := all2_cons hh
  obtain ⟨e0, h, rfl, g0, hh1⟩ := z
  rcases e0 with ⟨t0, n0, f0⟩ | ⟨ci, fs⟩
  · exact g0.elim
  obtain ⟨rfl, gf⟩ := g0
  have z := all2_cons gf
  clear gf
  obtain ⟨v0, fs, rfl, q0, gf⟩ := z
  cases gT_r (τ := τ) (t := 0) (v := v0) rfl q0
  have z := all2_cons gf
  clear gf
  obtain ⟨v0, fs, rfl, q0, gf⟩ := z
  cases gT_r (τ := τ) (t := 1) (v := v0) rfl q0
  have z := all2_cons gf
  clear gf
  obtain ⟨v0, fs, rfl, q0, gf⟩ := z
  cases (q0 : v0 = .inr (some (.inl 1)))
  have z := all2_cons gf
  clear gf
  obtain ⟨v0, fs, rfl, q0, gf⟩ := z
  cases (q0 : v0 = .inr (some (.inl 6)))
  have z := all2_cons gf
  clear gf
  obtain ⟨v0, fs, rfl, q0, gf⟩ := z
  cases gT_r (τ := τ) (t := 2) (v := v0) rfl q0
  have z := all2_cons gf
  clear gf
  obtain ⟨v0, fs, rfl, q0, gf⟩ := z
  cases gT_r (τ := τ) (t := 3) (v := v0) rfl q0
  have z := all2_cons gf
  clear gf
  obtain ⟨v0, fs, rfl, q0, gf⟩ := z
  cases gT_r (τ := τ) (t := 4) (v := v0) rfl q0
  have z := all2_cons gf
  clear gf
  obtain ⟨v0, fs, rfl, q0, gf⟩ := z
  cases gT_r (τ := τ) (t := 5) (v := v0) rfl q0
  have z := all2_cons gf
  clear gf
  obtain ⟨v0, fs, rfl, q0, gf⟩ := z
  cases gT_r (τ := τ) (t := 6) (v := v0) rfl q0
  have z := all2_cons gf
  clear gf
  obtain ⟨v0, fs, rfl, q0, gf⟩ := z
  cases gT_r (τ := τ) (t := 7) (v := v0) rfl q0
  have z := all2_cons gf
  clear gf
  obtain ⟨v0, fs, rfl, q0, gf⟩ := z
  cases gT_r (τ := τ) (t := 8) (v := v0) rfl q0
  have z := all2_cons gf
  clear gf
  obtain ⟨v0, fs, rfl, q0, gf⟩ := z
  cases gT_r (τ := τ) (t := 9) (v := v0) rfl q0
  have z := all2_cons gf
  clear gf
  obtain ⟨v0, fs, rfl, q0, gf⟩ := z
  cases gT_r (τ := τ) (t := 10) (v := v0) rfl q0
  have z := all2_cons gf
  clear gf
  obtain ⟨v0, fs, rfl, q0, gf⟩ := z
  cases gT_r (τ := τ) (t := 11) (v := v0) rfl q0
  have z := all2_cons gf
  clear gf
  obtain ⟨v0, fs, rfl, q0, gf⟩ := z
  obtain ⟨HS_wasKept, rfl, e_HS_wasKept, b_HS_wasKept⟩ := gT_x (τ := τ) (t := 201) (v := v0) rfl q0
  cases fs with
  | cons _ _ => exact gf.elim
  | nil =>
    refine m_X11_keep (Nat.le_of_ble_eq_true rfl) ?_
    refine callZ (τ := τ) (as := [1]) (xs := []) (rest := []) (a := 6) (ci := 4) (tm := []) (H := HX_keepC) (H2 := HX_keepC) hΦ trivial z_copyK hh (fun K h => h) rfl rfl rfl (by decide +kernel) (by decide +kernel) (by decide +kernel) (by decide +kernel) (fun τ3 p4 p5 y h3 qv q4 => ?_)
    obtain ⟨rfl, qv⟩ := qv
    have qv : decA (τ3 207) 0 = decA (τ 206) 0 := qv
    have hh := q4
    have z := all2_cons hh
    obtain ⟨e0, h, rfl, g0, hh1⟩ := z
    rcases e0 with ⟨t0, n0, f0⟩ | ⟨ci, fs⟩
    · exact g0.elim
    obtain ⟨rfl, gf⟩ := g0
    have z := all2_cons gf
    clear gf
    obtain ⟨v0, fs, rfl, q0, gf⟩ := z
    cases gT_r (τ := τ3) (t := 0) (v := v0) rfl q0
    have z := all2_cons gf
    clear gf
    obtain ⟨v0, fs, rfl, q0, gf⟩ := z
    cases gT_r (τ := τ3) (t := 1) (v := v0) rfl q0
    have z := all2_cons gf
    clear gf
    obtain ⟨v0, fs, rfl, q0, gf⟩ := z
    cases (q0 : v0 = .inr (some (.inl 1)))
    have z := all2_cons gf
    clear gf
    obtain ⟨v0, fs, rfl, q0, gf⟩ := z
    cases (q0 : v0 = .inr (some (.inl 6)))
    have z := all2_cons gf
    clear gf
    obtain ⟨v0, fs, rfl, q0, gf⟩ := z
    cases gT_r (τ := τ3) (t := 2) (v := v0) rfl q0
    have z := all2_cons gf
    clear gf
    obtain ⟨v0, fs, rfl, q0, gf⟩ := z
    cases gT_r (τ := τ3) (t := 3) (v := v0) rfl q0
    have z := all2_cons gf
    clear gf
    obtain ⟨v0, fs, rfl, q0, gf⟩ := z
    cases gT_r (τ := τ3) (t := 4) (v := v0) rfl q0
    have z := all2_cons gf
    clear gf
    obtain ⟨v0, fs, rfl, q0, gf⟩ := z
    cases gT_r (τ := τ3) (t := 5) (v := v0) rfl q0
    have z := all2_cons gf
    clear gf
    obtain ⟨v0, fs, rfl, q0, gf⟩ := z
    cases gT_r (τ := τ3) (t := 6) (v := v0) rfl q0
    have z := all2_cons gf
    clear gf
    obtain ⟨v0, fs, rfl, q0, gf⟩ := z
    cases gT_r (τ := τ3) (t := 7) (v := v0) rfl q0
    have z := all2_cons gf
    clear gf
    obtain ⟨v0, fs, rfl, q0, gf⟩ := z
    cases gT_r (τ := τ3) (t := 8) (v := v0) rfl q0
    have z := all2_cons gf
    clear gf
    obtain ⟨v0, fs, rfl, q0, gf⟩ := z
    cases gT_r (τ := τ3) (t := 9) (v := v0) rfl q0
    have z := all2_cons gf
    clear gf
    obtain ⟨v0, fs, rfl, q0, gf⟩ := z
    cases gT_r (τ := τ3) (t := 10) (v := v0) rfl q0
    have z := all2_cons gf
    clear gf
    obtain ⟨v0, fs, rfl, q0, gf⟩ := z
    cases gT_r (τ := τ3) (t := 11) (v := v0) rfl q0
    have z := all2_cons gf
    clear gf
    obtain ⟨v0, fs, rfl, q0, gf⟩ := z
    obtain ⟨HS_wasKept, rfl, e_HS_wasKept, b_HS_wasKept⟩ := gT_x (τ := τ3) (t := 201) (v := v0) rfl q0
    cases fs with
    | cons _ _ => exact gf.elim
    | nil =>
      refine And.intro (Or.inr rfl) ?_
      refine callT (τ := τ3) (tm := []) (A := [.inr (.inr (some (.inl 1)))]) (H := HY_keepC) (Ts := [([topA], HY_keepC)]) p4 s_X4_day_d ⟨rfl, trivial⟩ ⟨⟨rfl, rfl, rfl, rfl, rfl, rfl, rfl, rfl, rfl, rfl, rfl, rfl, rfl, rfl, rfl, ⟨1, rfl, by decide, by decide⟩, trivial⟩, hh1⟩ (by decide +kernel) (fun T hT st h4 q2 q3 => ?_)
      cases List.mem_singleton.mp hT
      obtain ⟨v, rfl, hv⟩ := tdst1 q2
      obtain ⟨v, rfl, _⟩ := hv
      exact ⟨τ3, v, p4, p5, rfl, qv, q3⟩

def HX_undo0C : List AC := [.inr (10, [.inr (.inr (some (.inr 0))), .inr (.inr (some (.inl 11))), .inr (.inr (some (.inl 1))), .inr (.inr (some (.inl 6))), .inr (.inr (some (.inr 1))), .inr (.inr (some (.inr 2))), .inr (.inr (some (.inr 3))), .inr (.inr (some (.inr 4))), .inr (.inr (some (.inr 5))), .inr (.inr (some (.inr 6))), .inr (.inr (some (.inr 7))), .inr (.inr (some (.inr 8))), .inr (.inr (some (.inr 9))), .inr (.inr (some (.inr 10))), .inl (0, 0)]), .inr (4, [.inr (.inr (some (.inl 2))), .inr (.inr (some (.inl 3))), .inr (.inr (some (.inl 4))), .inr (.inr (some (.inl 5))), .inr (.inr (some (.inr 206))), .inl (-2147483648, 2147483647), .inl (-2147483648, 2147483647), .inl (-2147483648, 2147483647)]), .inl (0, 8, -2147483648, 2147483647), .inl (0, 8, -2147483648, 2147483647), .inl (0, 48, -2147483648, 2147483647), .inl (0, 48, -2147483648, 2147483647), .inr (4, [.inr (.inr (some (.inl 7))), .inr (.inr (some (.inl 8))), .inr (.inr (some (.inl 9))), .inr (.inr (some (.inl 10))), .inr (.inr (some (.inr 207))), .inl (-2147483648, 2147483647), .inl (-2147483648, 2147483647), .inl (-2147483648, 2147483647)]), .inl (0, 8, -2147483648, 2147483647), .inl (0, 8, -2147483648, 2147483647), .inl (0, 48, -2147483648, 2147483647), .inl (0, 48, -2147483648, 2147483647), .inr (6, [.inr (.inr (some (.inl 12))), .inr (.inr (some (.inl 13))), .inr (.inr (some (.inl 14))), .inr (.inr (some (.inl 15))), .inr (.inr (some (.inl 16))), .inr (.inr (some (.inr 203))), .inl (-2147483648, 2147483647), .inr (.inr (some (.inr 204)))]), .inl (1008, 8, -2147483648, 2147483647), .inl (1012, 8, -2147483648, 2147483647), .inl (1054, 384, 0, 1), .inl (1020, 48, -2147483648, 2147483647), .inl (1024, 48, -2147483648, 2147483647)]
set_option maxRecDepth 100000 in
theorem x_undo0C {l : Launch} : conOkX (MetP l 2 yX11_undo cX11_undo 1 (some .boolean) 0 0) [] HX_undo0C HX_undo0C (fun t => false) (fun _ => True) (fun τ τ' y => True) := by
  intro τ hΦ hP h hh
  have z := all2_cons hh
  obtain ⟨e0, h, rfl, g0, hh1⟩ := z
  rcases e0 with ⟨t0, n0, f0⟩ | ⟨ci, fs⟩
  · exact g0.elim
  obtain ⟨rfl, gf⟩ := g0
  have z := all2_cons gf
  clear gf
  obtain ⟨v0, fs, rfl, q0, gf⟩ := z
  cases gT_r (τ := τ) (t := 0) (v := v0) rfl q0
  have z := all2_cons gf
  clear gf
  obtain ⟨v0, fs, rfl, q0, gf⟩ := z
  cases (q0 : v0 = .inr (some (.inl 11)))
  have z := all2_cons gf
  clear gf
  obtain ⟨v0, fs, rfl, q0, gf⟩ := z
  cases (q0 : v0 = .inr (some (.inl 1)))
  have z := all2_cons gf
  clear gf
  obtain ⟨v0, fs, rfl, q0, gf⟩ := z
  cases (q0 : v0 = .inr (some (.inl 6)))
  have z := all2_cons gf
  clear gf
  obtain ⟨v0, fs, rfl, q0, gf⟩ := z
  cases gT_r (τ := τ) (t := 1) (v := v0) rfl q0
  have z := all2_cons gf
  clear gf
  obtain ⟨v0, fs, rfl, q0, gf⟩ := z
  cases gT_r (τ := τ) (t := 2) (v := v0) rfl q0
  have z := all2_cons gf
  clear gf
  obtain ⟨v0, fs, rfl, q0, gf⟩ := z
  cases gT_r (τ := τ) (t := 3) (v := v0) rfl q0
  have z := all2_cons gf
  clear gf
  obtain ⟨v0, fs, rfl, q0, gf⟩ := z
  cases gT_r (τ := τ) (t := 4) (v := v0) rfl q0
  have z := all2_cons gf
  clear gf
  obtain ⟨v0, fs, rfl, q0, gf⟩ := z
  cases gT_r (τ := τ) (t := 5) (v := v0) rfl q0
  have z := all2_cons gf
  clear gf
  obtain ⟨v0, fs, rfl, q0, gf⟩ := z
  cases gT_r (τ := τ) (t := 6) (v := v0) rfl q0
  have z := all2_cons gf
  clear gf
  obtain ⟨v0, fs, rfl, q0, gf⟩ := z
  cases gT_r (τ := τ) (t := 7) (v := v0) rfl q0
  have z := all2_cons gf
  clear gf
  obtain ⟨v0, fs, rfl, q0, gf⟩ := z
  cases gT_r (τ := τ) (t := 8) (v := v0) rfl q0
  have z := all2_cons gf
  clear gf
  obtain ⟨v0, fs, rfl, q0, gf⟩ := z
  cases gT_r (τ := τ) (t := 9) (v := v0) rfl q0
  have z := all2_cons gf
  clear gf
  obtain ⟨v0, fs, rfl, q0, gf⟩ := z
  cases gT_r (τ := τ) (t := 10) (v := v0) rfl q0
  have z := all2_cons gf
  clear gf
  obtain ⟨v0, fs, rfl, q0, gf⟩ := z
  obtain ⟨HS_wasKept, rfl, b_HS_wasKept⟩ := q0
  cases fs with
  | cons _ _ => exact gf.elim
  | nil =>
    obtain rfl : HS_wasKept = 0 := i32eq.mpr (show HS_wasKept.toInt = 0 by omega)
    refine m_X11_undo (Nat.le_of_ble_eq_true rfl) ?_
    exact And.intro (fun _ => And.intro (Or.inl rfl) ⟨τ, 0, hΦ, fun _ _ => rfl, rfl, trivial, hh⟩) (fun z => absurd rfl z)

def HX_undo1C : List AC := [.inr (10, [.inr (.inr (some (.inr 0))), .inr (.inr (some (.inl 11))), .inr (.inr (some (.inl 1))), .inr (.inr (some (.inl 6))), .inr (.inr (some (.inr 1))), .inr (.inr (some (.inr 2))), .inr (.inr (some (.inr 3))), .inr (.inr (some (.inr 4))), .inr (.inr (some (.inr 5))), .inr (.inr (some (.inr 6))), .inr (.inr (some (.inr 7))), .inr (.inr (some (.inr 8))), .inr (.inr (some (.inr 9))), .inr (.inr (some (.inr 10))), .inl (1, 1)]), .inr (4, [.inr (.inr (some (.inl 2))), .inr (.inr (some (.inl 3))), .inr (.inr (some (.inl 4))), .inr (.inr (some (.inl 5))), .inr (.inr (some (.inr 206))), .inl (-2147483648, 2147483647), .inl (-2147483648, 2147483647), .inl (-2147483648, 2147483647)]), .inl (0, 8, -2147483648, 2147483647), .inl (0, 8, -2147483648, 2147483647), .inl (0, 48, -2147483648, 2147483647), .inl (0, 48, -2147483648, 2147483647), .inr (4, [.inr (.inr (some (.inl 7))), .inr (.inr (some (.inl 8))), .inr (.inr (some (.inl 9))), .inr (.inr (some (.inl 10))), .inr (.inr (some (.inr 207))), .inl (-2147483648, 2147483647), .inl (-2147483648, 2147483647), .inl (-2147483648, 2147483647)]), .inl (0, 8, -2147483648, 2147483647), .inl (0, 8, -2147483648, 2147483647), .inl (0, 48, -2147483648, 2147483647), .inl (0, 48, -2147483648, 2147483647), .inr (6, [.inr (.inr (some (.inl 12))), .inr (.inr (some (.inl 13))), .inr (.inr (some (.inl 14))), .inr (.inr (some (.inl 15))), .inr (.inr (some (.inl 16))), .inr (.inr (some (.inr 203))), .inl (-2147483648, 2147483647), .inr (.inr (some (.inr 204)))]), .inl (1008, 8, -2147483648, 2147483647), .inl (1012, 8, -2147483648, 2147483647), .inl (1054, 384, 0, 1), .inl (1020, 48, -2147483648, 2147483647), .inl (1024, 48, -2147483648, 2147483647)]
set_option maxRecDepth 100000 in
theorem x_undo1C {l : Launch} : conOkX (MetP l 2 yX11_undo cX11_undo 1 (some .boolean) 0 0) [] HX_undo1C HX_undo1C (fun t => Nat.beq t 206) (fun _ => True) (fun τ τ' y => decA (τ' 206) 0 = decA (τ 207) 0) := by
  intro τ hΦ hP h hh
  have z := all2_cons hh
  obtain ⟨e0, h, rfl, g0, hh1⟩ := z
  rcases e0 with ⟨t0, n0, f0⟩ | ⟨ci, fs⟩
  · exact g0.elim
  obtain ⟨rfl, gf⟩ := g0
  have z := all2_cons gf
  clear gf
  obtain ⟨v0, fs, rfl, q0, gf⟩ := z
  cases gT_r (τ := τ) (t := 0) (v := v0) rfl q0
  have z := all2_cons gf
  clear gf
  obtain ⟨v0, fs, rfl, q0, gf⟩ := z
  cases (q0 : v0 = .inr (some (.inl 11)))
  have z := all2_cons gf
  clear gf
  obtain ⟨v0, fs, rfl, q0, gf⟩ := z
  cases (q0 : v0 = .inr (some (.inl 1)))
  have z := all2_cons gf
  clear gf
  obtain ⟨v0, fs, rfl, q0, gf⟩ := z
  cases (q0 : v0 = .inr (some (.inl 6)))
  have z := all2_cons gf
  clear gf
  obtain ⟨v0, fs, rfl, q0, gf⟩ := z
  cases gT_r (τ := τ) (t := 1) (v := v0) rfl q0
  have z := all2_cons gf
  clear gf
  obtain ⟨v0, fs, rfl, q0, gf⟩ := z
  cases gT_r (τ := τ) (t := 2) (v := v0) rfl q0
  have z := all2_cons gf
  clear gf
  obtain ⟨v0, fs, rfl, q0, gf⟩ := z
  cases gT_r (τ := τ) (t := 3) (v := v0) rfl q0
  have z := all2_cons gf
  clear gf
  obtain ⟨v0, fs, rfl, q0, gf⟩ := z
  cases gT_r (τ := τ) (t := 4) (v := v0) rfl q0
  have z := all2_cons gf
  clear gf
  obtain ⟨v0, fs, rfl, q0, gf⟩ := z
  cases gT_r (τ := τ) (t := 5) (v := v0) rfl q0
  have z := all2_cons gf
  clear gf
  obtain ⟨v0, fs, rfl, q0, gf⟩ := z
  cases gT_r (τ := τ) (t := 6) (v := v0) rfl q0
  have z := all2_cons gf
  clear gf
  obtain ⟨v0, fs, rfl, q0, gf⟩ := z
  cases gT_r (τ := τ) (t := 7) (v := v0) rfl q0
  have z := all2_cons gf
  clear gf
  obtain ⟨v0, fs, rfl, q0, gf⟩ := z
  cases gT_r (τ := τ) (t := 8) (v := v0) rfl q0
  have z := all2_cons gf
  clear gf
  obtain ⟨v0, fs, rfl, q0, gf⟩ := z
  cases gT_r (τ := τ) (t := 9) (v := v0) rfl q0
  have z := all2_cons gf
  clear gf
  obtain ⟨v0, fs, rfl, q0, gf⟩ := z
  cases gT_r (τ := τ) (t := 10) (v := v0) rfl q0
  have z := all2_cons gf
  clear gf
  obtain ⟨v0, fs, rfl, q0, gf⟩ := z
  obtain ⟨HS_wasKept, rfl, b_HS_wasKept⟩ := q0
  cases fs with
  | cons _ _ => exact gf.elim
  | nil =>
    obtain rfl : HS_wasKept = 1 := i32eq.mpr (show HS_wasKept.toInt = 1 by omega)
    refine m_X11_undo (Nat.le_of_ble_eq_true rfl) ?_
    refine And.intro (fun z => absurd z (by show ¬ ((_ : Int32) = _); decide)) (fun _ => ?_)
    refine callZ (τ := τ) (as := [6]) (xs := []) (rest := []) (a := 1) (ci := 4) (tm := []) (H := HX_undo1C) (H2 := HX_undo1C) hΦ trivial z_copyU hh (fun K h => h) rfl rfl rfl (by decide +kernel) (by decide +kernel) (by decide +kernel) (by decide +kernel) (fun τ3 p4 p5 y h3 qv q4 => ?_)
    obtain ⟨rfl, qv⟩ := qv
    have qv : decA (τ3 206) 0 = decA (τ 207) 0 := qv
    have hh := q4
    have z := all2_cons hh
    obtain ⟨e0, h, rfl, g0, hh1⟩ := z
    rcases e0 with ⟨t0, n0, f0⟩ | ⟨ci, fs⟩
    · exact g0.elim
    obtain ⟨rfl, gf⟩ := g0
    have z := all2_cons gf
    clear gf
    obtain ⟨v0, fs, rfl, q0, gf⟩ := z
    cases gT_r (τ := τ3) (t := 0) (v := v0) rfl q0
    have z := all2_cons gf
    clear gf
    obtain ⟨v0, fs, rfl, q0, gf⟩ := z
    cases (q0 : v0 = .inr (some (.inl 11)))
    have z := all2_cons gf
    clear gf
    obtain ⟨v0, fs, rfl, q0, gf⟩ := z
    cases (q0 : v0 = .inr (some (.inl 1)))
    have z := all2_cons gf
    clear gf
    obtain ⟨v0, fs, rfl, q0, gf⟩ := z
    cases (q0 : v0 = .inr (some (.inl 6)))
    have z := all2_cons gf
    clear gf
    obtain ⟨v0, fs, rfl, q0, gf⟩ := z
    cases gT_r (τ := τ3) (t := 1) (v := v0) rfl q0
    have z := all2_cons gf
    clear gf
    obtain ⟨v0, fs, rfl, q0, gf⟩ := z
    cases gT_r (τ := τ3) (t := 2) (v := v0) rfl q0
    have z := all2_cons gf
    clear gf
    obtain ⟨v0, fs, rfl, q0, gf⟩ := z
    cases gT_r (τ := τ3) (t := 3) (v := v0) rfl q0
    have z := all2_cons gf
    clear gf
    obtain ⟨v0, fs, rfl, q0, gf⟩ := z
    cases gT_r (τ := τ3) (t := 4) (v := v0) rfl q0
    have z := all2_cons gf
    clear gf
    obtain ⟨v0, fs, rfl, q0, gf⟩ := z
    cases gT_r (τ := τ3) (t := 5) (v := v0) rfl q0
    have z := all2_cons gf
    clear gf
    obtain ⟨v0, fs, rfl, q0, gf⟩ := z
    cases gT_r (τ := τ3) (t := 6) (v := v0) rfl q0
    have z := all2_cons gf
    clear gf
    obtain ⟨v0, fs, rfl, q0, gf⟩ := z
    cases gT_r (τ := τ3) (t := 7) (v := v0) rfl q0
    have z := all2_cons gf
    clear gf
    obtain ⟨v0, fs, rfl, q0, gf⟩ := z
    cases gT_r (τ := τ3) (t := 8) (v := v0) rfl q0
    have z := all2_cons gf
    clear gf
    obtain ⟨v0, fs, rfl, q0, gf⟩ := z
    cases gT_r (τ := τ3) (t := 9) (v := v0) rfl q0
    have z := all2_cons gf
    clear gf
    obtain ⟨v0, fs, rfl, q0, gf⟩ := z
    cases gT_r (τ := τ3) (t := 10) (v := v0) rfl q0
    have z := all2_cons gf
    clear gf
    obtain ⟨v0, fs, rfl, q0, gf⟩ := z
    obtain ⟨HS_wasKept, rfl, b_HS_wasKept⟩ := q0
    cases fs with
    | cons _ _ => exact gf.elim
    | nil =>
      refine callT (τ := τ3) (tm := []) (A := [.inr (.inr (some (.inl 11))), .inr (.inr (some (.inl 1)))]) (H := HX_undo1C) (Ts := [([topA, .inr (.inr (some (.inl 1)))], HX_undo1C)]) p4 s_X7_stamps ⟨rfl, rfl, trivial⟩ hh (by decide +kernel) (fun T hT st h5 q2 q3 => ?_)
      cases List.mem_singleton.mp hT
      obtain ⟨v, w, rfl, hv, hw⟩ := tdst2 q2
      obtain ⟨v, rfl, _⟩ := hv
      cases (hw : w = .inr (some (.inl 1)))
      refine callT (τ := τ3) (tm := []) (A := [topA, .inr (.inr (some (.inl 1)))]) (H := HX_undo1C) (Ts := [([], HX_undo1C)]) p4 s_X4_peelFrom_d ⟨topA_ok _, rfl, trivial⟩ q3 (by decide +kernel) (fun T hT st h6 q5 q6 => ?_)
      cases List.mem_singleton.mp hT
      cases st with
      | cons _ _ => exact q5.elim
      | nil => exact And.intro (Or.inr rfl) ⟨τ3, 1, p4, p5, rfl, qv, q6⟩

def HX_keepR : List AC := [.inr (11, [.inr (.inr (some (.inl 1))), .inr (.inr (some (.inr 0))), .inr (.inr (some (.inl 2))), .inr (.inr (some (.inr 1))), .inr (.inr (some (.inr 2))), .inr (.inr (some (.inr 3))), .inr (.inr (some (.inr 4))), .inr (.inr (some (.inr 5))), .inr (.inr (some (.inr 205))), .inr (.inr (some (.inr 6))), .inr (.inr (some (.inr 202))), .inl (0, 240), .inl (0, 240), .inl (-2147483648, 2147483647), .inl (-2147483648, 2147483647), .inl (-2147483648, 2147483647), .inl (0, 260), .inl (0, 260), .inl (0, 16), .inr (.inr (some (.inr 200))), .inr (.inr (some (.inr 7))), .inr (.inr (some (.inr 8))), .inr (.inr (some (.inr 9))), .inr (.inr (some (.inr 10))), .inr (.inr (some (.inr 11))), .inr (.inr (some (.inr 12))), .inr (.inr (some (.inr 13))), .inr (.inr (some (.inr 14))), .inr (.inr (some (.inr 15))), .inr (.inr (some (.inr 16))), .inr (.inr (some (.inr 17))), .inr (.inr (some (.inr 18))), .inr (.inr (some (.inr 19))), .inr (.inr (some (.inr 20))), .inr (.inr (some (.inr 21))), .inr (.inr (some (.inr 22))), .inr (.inr (some (.inr 23))), .inl (-2147483648, 2147483647), .inl (-2147483648, 2147483647), .inl (-2147483648, 2147483647), .inl (-2147483648, 2147483647), .inl (-2147483648, 2147483647), .inl (-2147483648, 2147483647), .inl (-2147483648, 2147483647), .inl (-2147483648, 2147483647), .inl (-2147483648, 2147483647), .inl (-2147483648, 2147483647), .inr (.inr (some (.inr 24))), .inr (.inr (some (.inr 25))), .inr (.inr (some (.inr 26))), .inr (.inr (some (.inr 27))), .inr (.inr (some (.inr 28))), .inr (.inr (some (.inr 201)))]), .inl (600, 130, 0, 383), .inl (601, 130, 0, 383)]
def HY_keepR : List AC := hc_b5aa9fcafe
set_option maxRecDepth 100000 in
theorem x_keepR {l : Launch} : conOkX (MetP l 1 yX12_keep cX12_keep 2 (some .int) 0 0) [] HX_keepR HY_keepR (fun t => Nat.beq t 209) (fun _ => True) (fun τ τ' _ => ∀ i, i < 8 → decA (τ' 209) i = decA (τ 208) i) := by
  intro τ hΦ hP h hh
  have z := all2_cons hh
  clear hh
  obtain ⟨e0, h, rfl, g0, hh⟩ := z
  rcases e0 with ⟨t0, n0, f0⟩ | ⟨ci, fs⟩
  · exact g0.elim
  obtain ⟨rfl, gf⟩ := g0
  have z := all2_cons gf
  clear gf
  obtain ⟨v0, fs, rfl, q0, gf⟩ := z
  cases (q0 : v0 = .inr (some (.inl 1)))
  have z := all2_cons gf
  clear gf
  obtain ⟨v0, fs, rfl, q0, gf⟩ := z
  cases gT_r (τ := τ) (t := 0) (v := v0) rfl q0
  have z := all2_cons gf
  clear gf
  obtain ⟨v0, fs, rfl, q0, gf⟩ := z
  cases (q0 : v0 = .inr (some (.inl 2)))
  have z := all2_cons gf
  clear gf
  obtain ⟨v0, fs, rfl, q0, gf⟩ := z
  cases gT_r (τ := τ) (t := 1) (v := v0) rfl q0
  have z := all2_cons gf
  clear gf
  obtain ⟨v0, fs, rfl, q0, gf⟩ := z
  cases gT_r (τ := τ) (t := 2) (v := v0) rfl q0
  have z := all2_cons gf
  clear gf
  obtain ⟨v0, fs, rfl, q0, gf⟩ := z
  cases gT_r (τ := τ) (t := 3) (v := v0) rfl q0
  have z := all2_cons gf
  clear gf
  obtain ⟨v0, fs, rfl, q0, gf⟩ := z
  cases gT_r (τ := τ) (t := 4) (v := v0) rfl q0
  have z := all2_cons gf
  clear gf
  obtain ⟨v0, fs, rfl, q0, gf⟩ := z
  cases gT_r (τ := τ) (t := 5) (v := v0) rfl q0
  have z := all2_cons gf
  clear gf
  obtain ⟨v0, fs, rfl, q0, gf⟩ := z
  obtain ⟨M_stampMany, rfl, e_M_stampMany, b_M_stampMany⟩ := gT_x (τ := τ) (t := 205) (v := v0) rfl q0
  have z := all2_cons gf
  clear gf
  obtain ⟨v0, fs, rfl, q0, gf⟩ := z
  cases gT_r (τ := τ) (t := 6) (v := v0) rfl q0
  have z := all2_cons gf
  clear gf
  obtain ⟨v0, fs, rfl, q0, gf⟩ := z
  obtain ⟨M_taped, rfl, e_M_taped, b_M_taped⟩ := gT_x (τ := τ) (t := 202) (v := v0) rfl q0
  have z := all2_cons gf
  clear gf
  obtain ⟨v0, fs, rfl, q0, gf⟩ := z
  obtain ⟨M_place0, rfl, b_M_place0⟩ := q0
  have z := all2_cons gf
  clear gf
  obtain ⟨v0, fs, rfl, q0, gf⟩ := z
  obtain ⟨M_length0, rfl, b_M_length0⟩ := q0
  have z := all2_cons gf
  clear gf
  obtain ⟨v0, fs, rfl, q0, gf⟩ := z
  obtain ⟨M_fault, rfl, b_M_fault⟩ := q0
  have z := all2_cons gf
  clear gf
  obtain ⟨v0, fs, rfl, q0, gf⟩ := z
  obtain ⟨M_number0, rfl, b_M_number0⟩ := q0
  have z := all2_cons gf
  clear gf
  obtain ⟨v0, fs, rfl, q0, gf⟩ := z
  obtain ⟨M_open, rfl, b_M_open⟩ := q0
  have z := all2_cons gf
  clear gf
  obtain ⟨v0, fs, rfl, q0, gf⟩ := z
  obtain ⟨M_codeMany, rfl, b_M_codeMany⟩ := q0
  have z := all2_cons gf
  clear gf
  obtain ⟨v0, fs, rfl, q0, gf⟩ := z
  obtain ⟨M_waiting, rfl, b_M_waiting⟩ := q0
  have z := all2_cons gf
  clear gf
  obtain ⟨v0, fs, rfl, q0, gf⟩ := z
  obtain ⟨M_saidMany, rfl, b_M_saidMany⟩ := q0
  have z := all2_cons gf
  clear gf
  obtain ⟨v0, fs, rfl, q0, gf⟩ := z
  obtain ⟨M_clauses, rfl, e_M_clauses, b_M_clauses⟩ := gT_x (τ := τ) (t := 200) (v := v0) rfl q0
  have z := all2_cons gf
  clear gf
  obtain ⟨v0, fs, rfl, q0, gf⟩ := z
  cases gT_r (τ := τ) (t := 7) (v := v0) rfl q0
  have z := all2_cons gf
  clear gf
  obtain ⟨v0, fs, rfl, q0, gf⟩ := z
  cases gT_r (τ := τ) (t := 8) (v := v0) rfl q0
  have z := all2_cons gf
  clear gf
  obtain ⟨v0, fs, rfl, q0, gf⟩ := z
  cases gT_r (τ := τ) (t := 9) (v := v0) rfl q0
  have z := all2_cons gf
  clear gf
  obtain ⟨v0, fs, rfl, q0, gf⟩ := z
  cases gT_r (τ := τ) (t := 10) (v := v0) rfl q0
  have z := all2_cons gf
  clear gf
  obtain ⟨v0, fs, rfl, q0, gf⟩ := z
  cases gT_r (τ := τ) (t := 11) (v := v0) rfl q0
  have z := all2_cons gf
  clear gf
  obtain ⟨v0, fs, rfl, q0, gf⟩ := z
  cases gT_r (τ := τ) (t := 12) (v := v0) rfl q0
  have z := all2_cons gf
  clear gf
  obtain ⟨v0, fs, rfl, q0, gf⟩ := z
  cases gT_r (τ := τ) (t := 13) (v := v0) rfl q0
  have z := all2_cons gf
  clear gf
  obtain ⟨v0, fs, rfl, q0, gf⟩ := z
  cases gT_r (τ := τ) (t := 14) (v := v0) rfl q0
  have z := all2_cons gf
  clear gf
  obtain ⟨v0, fs, rfl, q0, gf⟩ := z
  cases gT_r (τ := τ) (t := 15) (v := v0) rfl q0
  have z := all2_cons gf
  clear gf
  obtain ⟨v0, fs, rfl, q0, gf⟩ := z
  cases gT_r (τ := τ) (t := 16) (v := v0) rfl q0
  have z := all2_cons gf
  clear gf
  obtain ⟨v0, fs, rfl, q0, gf⟩ := z
  cases gT_r (τ := τ) (t := 17) (v := v0) rfl q0
  have z := all2_cons gf
  clear gf
  obtain ⟨v0, fs, rfl, q0, gf⟩ := z
  cases gT_r (τ := τ) (t := 18) (v := v0) rfl q0
  have z := all2_cons gf
  clear gf
  obtain ⟨v0, fs, rfl, q0, gf⟩ := z
  cases gT_r (τ := τ) (t := 19) (v := v0) rfl q0
  have z := all2_cons gf
  clear gf
  obtain ⟨v0, fs, rfl, q0, gf⟩ := z
  cases gT_r (τ := τ) (t := 20) (v := v0) rfl q0
  have z := all2_cons gf
  clear gf
  obtain ⟨v0, fs, rfl, q0, gf⟩ := z
  cases gT_r (τ := τ) (t := 21) (v := v0) rfl q0
  have z := all2_cons gf
  clear gf
  obtain ⟨v0, fs, rfl, q0, gf⟩ := z
  cases gT_r (τ := τ) (t := 22) (v := v0) rfl q0
  have z := all2_cons gf
  clear gf
  obtain ⟨v0, fs, rfl, q0, gf⟩ := z
  cases gT_r (τ := τ) (t := 23) (v := v0) rfl q0
  have z := all2_cons gf
  clear gf
  obtain ⟨v0, fs, rfl, q0, gf⟩ := z
  obtain ⟨M_newMany, rfl, b_M_newMany⟩ := q0
  have z := all2_cons gf
  clear gf
  obtain ⟨v0, fs, rfl, q0, gf⟩ := z
  obtain ⟨M_rounds, rfl, b_M_rounds⟩ := q0
  have z := all2_cons gf
  clear gf
  obtain ⟨v0, fs, rfl, q0, gf⟩ := z
  obtain ⟨M_stampFrom, rfl, b_M_stampFrom⟩ := q0
  have z := all2_cons gf
  clear gf
  obtain ⟨v0, fs, rfl, q0, gf⟩ := z
  obtain ⟨M_stampTimes, rfl, b_M_stampTimes⟩ := q0
  have z := all2_cons gf
  clear gf
  obtain ⟨v0, fs, rfl, q0, gf⟩ := z
  obtain ⟨M_lines, rfl, b_M_lines⟩ := q0
  have z := all2_cons gf
  clear gf
  obtain ⟨v0, fs, rfl, q0, gf⟩ := z
  obtain ⟨M_spot0, rfl, b_M_spot0⟩ := q0
  have z := all2_cons gf
  clear gf
  obtain ⟨v0, fs, rfl, q0, gf⟩ := z
  obtain ⟨M_pullAcross, rfl, b_M_pullAcross⟩ := q0
  have z := all2_cons gf
  clear gf
  obtain ⟨v0, fs, rfl, q0, gf⟩ := z
  obtain ⟨M_pullAlong, rfl, b_M_pullAlong⟩ := q0
  have z := all2_cons gf
  clear gf
  obtain ⟨v0, fs, rfl, q0, gf⟩ := z
  obtain ⟨M_stepsNow, rfl, b_M_stepsNow⟩ := q0
  have z := all2_cons gf
  clear gf
  obtain ⟨v0, fs, rfl, q0, gf⟩ := z
  obtain ⟨M_fallenNow, rfl, b_M_fallenNow⟩ := q0
  have z := all2_cons gf
  clear gf
  obtain ⟨v0, fs, rfl, q0, gf⟩ := z
  cases gT_r (τ := τ) (t := 24) (v := v0) rfl q0
  have z := all2_cons gf
  clear gf
  obtain ⟨v0, fs, rfl, q0, gf⟩ := z
  cases gT_r (τ := τ) (t := 25) (v := v0) rfl q0
  have z := all2_cons gf
  clear gf
  obtain ⟨v0, fs, rfl, q0, gf⟩ := z
  cases gT_r (τ := τ) (t := 26) (v := v0) rfl q0
  have z := all2_cons gf
  clear gf
  obtain ⟨v0, fs, rfl, q0, gf⟩ := z
  cases gT_r (τ := τ) (t := 27) (v := v0) rfl q0
  have z := all2_cons gf
  clear gf
  obtain ⟨v0, fs, rfl, q0, gf⟩ := z
  cases gT_r (τ := τ) (t := 28) (v := v0) rfl q0
  have z := all2_cons gf
  clear gf
  obtain ⟨v0, fs, rfl, q0, gf⟩ := z
  obtain ⟨M_isKept, rfl, e_M_isKept, b_M_isKept⟩ := gT_x (τ := τ) (t := 201) (v := v0) rfl q0
  cases fs with
  | cons _ _ => exact gf.elim
  | nil =>
    have z := all2_cons hh
    clear hh
    obtain ⟨e1, h, rfl, g1, hh⟩ := z
    rcases e1 with ⟨t1, n1, M_now⟩ | ⟨ci, fs⟩
    rotate_left
    · exact g1.elim
    obtain ⟨et, en, b_M_now⟩ := g1
    cases (et : t1 = 0)
    cases en
    have z := all2_cons hh
    clear hh
    obtain ⟨e1, h, rfl, g1, hh⟩ := z
    rcases e1 with ⟨t1, n1, M_kept⟩ | ⟨ci, fs⟩
    rotate_left
    · exact g1.elim
    obtain ⟨et, en, b_M_kept⟩ := g1
    cases (et : t1 = 0)
    cases en
    cases h with
    | cons _ _ => exact hh.elim
    | nil =>
      have sg := seg6_of (t := 600) rfl rfl b_M_now
      refine (c_X12_keep b_M_stampMany sg.1).mono (fun r h' hp => ?_)
      obtain ⟨kp, rfl, k1, rfl⟩ := hp
      exact ⟨upL τ 209 (encA kp 8), _, hΦ, fun t ht => upL_ne (ch_ne ht rfl), rfl, fun i hi => (encA_ok hi).trans ((k1.2 i hi).trans (sg.2 i hi)), ⟨⟨rfl, rfl, rfl, rfl, rfl, rfl, rfl, rfl, rfl, gT_mk rfl e_M_stampMany b_M_stampMany, rfl, gT_mk rfl e_M_taped b_M_taped, ⟨_, rfl, b_M_place0⟩, ⟨_, rfl, b_M_length0⟩, ⟨_, rfl, b_M_fault⟩, ⟨_, rfl, b_M_number0⟩, ⟨_, rfl, b_M_open⟩, ⟨_, rfl, b_M_codeMany⟩, ⟨_, rfl, b_M_waiting⟩, ⟨_, rfl, b_M_saidMany⟩, gT_mk rfl e_M_clauses b_M_clauses, rfl, rfl, rfl, rfl, rfl, rfl, rfl, rfl, rfl, rfl, rfl, rfl, rfl, rfl, rfl, rfl, rfl, ⟨_, rfl, b_M_newMany⟩, ⟨_, rfl, b_M_rounds⟩, ⟨_, rfl, b_M_stampFrom⟩, ⟨_, rfl, b_M_stampTimes⟩, ⟨_, rfl, b_M_lines⟩, ⟨_, rfl, b_M_spot0⟩, ⟨_, rfl, b_M_pullAcross⟩, ⟨_, rfl, b_M_pullAlong⟩, ⟨_, rfl, b_M_stepsNow⟩, ⟨_, rfl, b_M_fallenNow⟩, rfl, rfl, rfl, rfl, rfl, ⟨1, rfl, by decide, by decide⟩, trivial⟩, ⟨rfl, rfl, b_M_now⟩, ⟨rfl, rfl, of_seg6' (t := 601) rfl rfl ⟨k1.1, fun i hi => (encA_ok hi).symm⟩⟩, trivial⟩⟩

def HX_undo0R : List AC := [.inr (11, [.inr (.inr (some (.inl 1))), .inr (.inr (some (.inr 0))), .inr (.inr (some (.inl 2))), .inr (.inr (some (.inr 1))), .inr (.inr (some (.inr 2))), .inr (.inr (some (.inr 3))), .inr (.inr (some (.inr 4))), .inr (.inr (some (.inr 5))), .inr (.inr (some (.inr 205))), .inr (.inr (some (.inr 6))), .inr (.inr (some (.inr 202))), .inl (0, 240), .inl (0, 240), .inl (-2147483648, 2147483647), .inl (-2147483648, 2147483647), .inl (-2147483648, 2147483647), .inl (0, 260), .inl (0, 260), .inl (0, 16), .inr (.inr (some (.inr 200))), .inr (.inr (some (.inr 7))), .inr (.inr (some (.inr 8))), .inr (.inr (some (.inr 9))), .inr (.inr (some (.inr 10))), .inr (.inr (some (.inr 11))), .inr (.inr (some (.inr 12))), .inr (.inr (some (.inr 13))), .inr (.inr (some (.inr 14))), .inr (.inr (some (.inr 15))), .inr (.inr (some (.inr 16))), .inr (.inr (some (.inr 17))), .inr (.inr (some (.inr 18))), .inr (.inr (some (.inr 19))), .inr (.inr (some (.inr 20))), .inr (.inr (some (.inr 21))), .inr (.inr (some (.inr 22))), .inr (.inr (some (.inr 23))), .inl (-2147483648, 2147483647), .inl (-2147483648, 2147483647), .inl (-2147483648, 2147483647), .inl (-2147483648, 2147483647), .inl (-2147483648, 2147483647), .inl (-2147483648, 2147483647), .inl (-2147483648, 2147483647), .inl (-2147483648, 2147483647), .inl (-2147483648, 2147483647), .inl (-2147483648, 2147483647), .inr (.inr (some (.inr 24))), .inr (.inr (some (.inr 25))), .inr (.inr (some (.inr 26))), .inr (.inr (some (.inr 27))), .inr (.inr (some (.inr 28))), .inl (0, 0)]), .inl (600, 130, 0, 383), .inl (601, 130, 0, 383)]
set_option maxRecDepth 100000 in
theorem x_undo0R {l : Launch} : conOkX (MetP l 1 yX12_undo cX12_undo 1 (some .boolean) 0 0) [] HX_undo0R HX_undo0R (fun t => false) (fun _ => True) (fun τ τ' y => True) := by
  intro τ hΦ hP h hh
  have z := all2_cons hh
  clear hh
  obtain ⟨e0, h, rfl, g0, hh⟩ := z
  rcases e0 with ⟨t0, n0, f0⟩ | ⟨ci, fs⟩
  · exact g0.elim
  obtain ⟨rfl, gf⟩ := g0
  have z := all2_cons gf
  clear gf
  obtain ⟨v0, fs, rfl, q0, gf⟩ := z
  cases (q0 : v0 = .inr (some (.inl 1)))
  have z := all2_cons gf
  clear gf
  obtain ⟨v0, fs, rfl, q0, gf⟩ := z
  cases gT_r (τ := τ) (t := 0) (v := v0) rfl q0
  have z := all2_cons gf
  clear gf
  obtain ⟨v0, fs, rfl, q0, gf⟩ := z
  cases (q0 : v0 = .inr (some (.inl 2)))
  have z := all2_cons gf
  clear gf
  obtain ⟨v0, fs, rfl, q0, gf⟩ := z
  cases gT_r (τ := τ) (t := 1) (v := v0) rfl q0
  have z := all2_cons gf
  clear gf
  obtain ⟨v0, fs, rfl, q0, gf⟩ := z
  cases gT_r (τ := τ) (t := 2) (v := v0) rfl q0
  have z := all2_cons gf
  clear gf
  obtain ⟨v0, fs, rfl, q0, gf⟩ := z
  cases gT_r (τ := τ) (t := 3) (v := v0) rfl q0
  have z := all2_cons gf
  clear gf
  obtain ⟨v0, fs, rfl, q0, gf⟩ := z
  cases gT_r (τ := τ) (t := 4) (v := v0) rfl q0
  have z := all2_cons gf
  clear gf
  obtain ⟨v0, fs, rfl, q0, gf⟩ := z
  cases gT_r (τ := τ) (t := 5) (v := v0) rfl q0
  have z := all2_cons gf
  clear gf
  obtain ⟨v0, fs, rfl, q0, gf⟩ := z
  obtain ⟨M_stampMany, rfl, e_M_stampMany, b_M_stampMany⟩ := gT_x (τ := τ) (t := 205) (v := v0) rfl q0
  have z := all2_cons gf
  clear gf
  obtain ⟨v0, fs, rfl, q0, gf⟩ := z
  cases gT_r (τ := τ) (t := 6) (v := v0) rfl q0
  have z := all2_cons gf
  clear gf
  obtain ⟨v0, fs, rfl, q0, gf⟩ := z
  obtain ⟨M_taped, rfl, e_M_taped, b_M_taped⟩ := gT_x (τ := τ) (t := 202) (v := v0) rfl q0
  have z := all2_cons gf
  clear gf
  obtain ⟨v0, fs, rfl, q0, gf⟩ := z
  obtain ⟨M_place0, rfl, b_M_place0⟩ := q0
  have z := all2_cons gf
  clear gf
  obtain ⟨v0, fs, rfl, q0, gf⟩ := z
  obtain ⟨M_length0, rfl, b_M_length0⟩ := q0
  have z := all2_cons gf
  clear gf
  obtain ⟨v0, fs, rfl, q0, gf⟩ := z
  obtain ⟨M_fault, rfl, b_M_fault⟩ := q0
  have z := all2_cons gf
  clear gf
  obtain ⟨v0, fs, rfl, q0, gf⟩ := z
  obtain ⟨M_number0, rfl, b_M_number0⟩ := q0
  have z := all2_cons gf
  clear gf
  obtain ⟨v0, fs, rfl, q0, gf⟩ := z
  obtain ⟨M_open, rfl, b_M_open⟩ := q0
  have z := all2_cons gf
  clear gf
  obtain ⟨v0, fs, rfl, q0, gf⟩ := z
  obtain ⟨M_codeMany, rfl, b_M_codeMany⟩ := q0
  have z := all2_cons gf
  clear gf
  obtain ⟨v0, fs, rfl, q0, gf⟩ := z
  obtain ⟨M_waiting, rfl, b_M_waiting⟩ := q0
  have z := all2_cons gf
  clear gf
  obtain ⟨v0, fs, rfl, q0, gf⟩ := z
  obtain ⟨M_saidMany, rfl, b_M_saidMany⟩ := q0
  have z := all2_cons gf
  clear gf
  obtain ⟨v0, fs, rfl, q0, gf⟩ := z
  obtain ⟨M_clauses, rfl, e_M_clauses, b_M_clauses⟩ := gT_x (τ := τ) (t := 200) (v := v0) rfl q0
  have z := all2_cons gf
  clear gf
  obtain ⟨v0, fs, rfl, q0, gf⟩ := z
  cases gT_r (τ := τ) (t := 7) (v := v0) rfl q0
  have z := all2_cons gf
  clear gf
  obtain ⟨v0, fs, rfl, q0, gf⟩ := z
  cases gT_r (τ := τ) (t := 8) (v := v0) rfl q0
  have z := all2_cons gf
  clear gf
  obtain ⟨v0, fs, rfl, q0, gf⟩ := z
  cases gT_r (τ := τ) (t := 9) (v := v0) rfl q0
  have z := all2_cons gf
  clear gf
  obtain ⟨v0, fs, rfl, q0, gf⟩ := z
  cases gT_r (τ := τ) (t := 10) (v := v0) rfl q0
  have z := all2_cons gf
  clear gf
  obtain ⟨v0, fs, rfl, q0, gf⟩ := z
  cases gT_r (τ := τ) (t := 11) (v := v0) rfl q0
  have z := all2_cons gf
  clear gf
  obtain ⟨v0, fs, rfl, q0, gf⟩ := z
  cases gT_r (τ := τ) (t := 12) (v := v0) rfl q0
  have z := all2_cons gf
  clear gf
  obtain ⟨v0, fs, rfl, q0, gf⟩ := z
  cases gT_r (τ := τ) (t := 13) (v := v0) rfl q0
  have z := all2_cons gf
  clear gf
  obtain ⟨v0, fs, rfl, q0, gf⟩ := z
  cases gT_r (τ := τ) (t := 14) (v := v0) rfl q0
  have z := all2_cons gf
  clear gf
  obtain ⟨v0, fs, rfl, q0, gf⟩ := z
  cases gT_r (τ := τ) (t := 15) (v := v0) rfl q0
  have z := all2_cons gf
  clear gf
  obtain ⟨v0, fs, rfl, q0, gf⟩ := z
  cases gT_r (τ := τ) (t := 16) (v := v0) rfl q0
  have z := all2_cons gf
  clear gf
  obtain ⟨v0, fs, rfl, q0, gf⟩ := z
  cases gT_r (τ := τ) (t := 17) (v := v0) rfl q0
  have z := all2_cons gf
  clear gf
  obtain ⟨v0, fs, rfl, q0, gf⟩ := z
  cases gT_r (τ := τ) (t := 18) (v := v0) rfl q0
  have z := all2_cons gf
  clear gf
  obtain ⟨v0, fs, rfl, q0, gf⟩ := z
  cases gT_r (τ := τ) (t := 19) (v := v0) rfl q0
  have z := all2_cons gf
  clear gf
  obtain ⟨v0, fs, rfl, q0, gf⟩ := z
  cases gT_r (τ := τ) (t := 20) (v := v0) rfl q0
  have z := all2_cons gf
  clear gf
  obtain ⟨v0, fs, rfl, q0, gf⟩ := z
  cases gT_r (τ := τ) (t := 21) (v := v0) rfl q0
  have z := all2_cons gf
  clear gf
  obtain ⟨v0, fs, rfl, q0, gf⟩ := z
  cases gT_r (τ := τ) (t := 22) (v := v0) rfl q0
  have z := all2_cons gf
  clear gf
  obtain ⟨v0, fs, rfl, q0, gf⟩ := z
  cases gT_r (τ := τ) (t := 23) (v := v0) rfl q0
  have z := all2_cons gf
  clear gf
  obtain ⟨v0, fs, rfl, q0, gf⟩ := z
  obtain ⟨M_newMany, rfl, b_M_newMany⟩ := q0
  have z := all2_cons gf
  clear gf
  obtain ⟨v0, fs, rfl, q0, gf⟩ := z
  obtain ⟨M_rounds, rfl, b_M_rounds⟩ := q0
  have z := all2_cons gf
  clear gf
  obtain ⟨v0, fs, rfl, q0, gf⟩ := z
  obtain ⟨M_stampFrom, rfl, b_M_stampFrom⟩ := q0
  have z := all2_cons gf
  clear gf
  obtain ⟨v0, fs, rfl, q0, gf⟩ := z
  obtain ⟨M_stampTimes, rfl, b_M_stampTimes⟩ := q0
  have z := all2_cons gf
  clear gf
  obtain ⟨v0, fs, rfl, q0, gf⟩ := z
  obtain ⟨M_lines, rfl, b_M_lines⟩ := q0
  have z := all2_cons gf
  clear gf
  obtain ⟨v0, fs, rfl, q0, gf⟩ := z
  obtain ⟨M_spot0, rfl, b_M_spot0⟩ := q0
  have z := all2_cons gf
  clear gf
  obtain ⟨v0, fs, rfl, q0, gf⟩ := z
  obtain ⟨M_pullAcross, rfl, b_M_pullAcross⟩ := q0
  have z := all2_cons gf
  clear gf
  obtain ⟨v0, fs, rfl, q0, gf⟩ := z
  obtain ⟨M_pullAlong, rfl, b_M_pullAlong⟩ := q0
  have z := all2_cons gf
  clear gf
  obtain ⟨v0, fs, rfl, q0, gf⟩ := z
  obtain ⟨M_stepsNow, rfl, b_M_stepsNow⟩ := q0
  have z := all2_cons gf
  clear gf
  obtain ⟨v0, fs, rfl, q0, gf⟩ := z
  obtain ⟨M_fallenNow, rfl, b_M_fallenNow⟩ := q0
  have z := all2_cons gf
  clear gf
  obtain ⟨v0, fs, rfl, q0, gf⟩ := z
  cases gT_r (τ := τ) (t := 24) (v := v0) rfl q0
  have z := all2_cons gf
  clear gf
  obtain ⟨v0, fs, rfl, q0, gf⟩ := z
  cases gT_r (τ := τ) (t := 25) (v := v0) rfl q0
  have z := all2_cons gf
  clear gf
  obtain ⟨v0, fs, rfl, q0, gf⟩ := z
  cases gT_r (τ := τ) (t := 26) (v := v0) rfl q0
  have z := all2_cons gf
  clear gf
  obtain ⟨v0, fs, rfl, q0, gf⟩ := z
  cases gT_r (τ := τ) (t := 27) (v := v0) rfl q0
  have z := all2_cons gf
  clear gf
  obtain ⟨v0, fs, rfl, q0, gf⟩ := z
  cases gT_r (τ := τ) (t := 28) (v := v0) rfl q0
  have z := all2_cons gf
  clear gf
  obtain ⟨v0, fs, rfl, q0, gf⟩ := z
  obtain ⟨M_isKept, rfl, b_M_isKept⟩ := q0
  cases fs with
  | cons _ _ => exact gf.elim
  | nil =>
    have z := all2_cons hh
    clear hh
    obtain ⟨e1, h, rfl, g1, hh⟩ := z
    rcases e1 with ⟨t1, n1, M_now⟩ | ⟨ci, fs⟩
    rotate_left
    · exact g1.elim
    obtain ⟨et, en, b_M_now⟩ := g1
    cases (et : t1 = 0)
    cases en
    have z := all2_cons hh
    clear hh
    obtain ⟨e1, h, rfl, g1, hh⟩ := z
    rcases e1 with ⟨t1, n1, M_kept⟩ | ⟨ci, fs⟩
    rotate_left
    · exact g1.elim
    obtain ⟨et, en, b_M_kept⟩ := g1
    cases (et : t1 = 0)
    cases en
    cases h with
    | cons _ _ => exact hh.elim
    | nil =>
      obtain rfl : M_isKept = 0 := i32eq.mpr (show M_isKept.toInt = 0 by omega)
      refine n_X12_undo.mono (fun r h' hp => ?_)
      obtain ⟨rfl, rfl⟩ := hp
      exact ⟨τ, 0, hΦ, fun _ _ => rfl, rfl, trivial, ⟨⟨rfl, rfl, rfl, rfl, rfl, rfl, rfl, rfl, rfl, gT_mk rfl e_M_stampMany b_M_stampMany, rfl, gT_mk rfl e_M_taped b_M_taped, ⟨_, rfl, b_M_place0⟩, ⟨_, rfl, b_M_length0⟩, ⟨_, rfl, b_M_fault⟩, ⟨_, rfl, b_M_number0⟩, ⟨_, rfl, b_M_open⟩, ⟨_, rfl, b_M_codeMany⟩, ⟨_, rfl, b_M_waiting⟩, ⟨_, rfl, b_M_saidMany⟩, gT_mk rfl e_M_clauses b_M_clauses, rfl, rfl, rfl, rfl, rfl, rfl, rfl, rfl, rfl, rfl, rfl, rfl, rfl, rfl, rfl, rfl, rfl, ⟨_, rfl, b_M_newMany⟩, ⟨_, rfl, b_M_rounds⟩, ⟨_, rfl, b_M_stampFrom⟩, ⟨_, rfl, b_M_stampTimes⟩, ⟨_, rfl, b_M_lines⟩, ⟨_, rfl, b_M_spot0⟩, ⟨_, rfl, b_M_pullAcross⟩, ⟨_, rfl, b_M_pullAlong⟩, ⟨_, rfl, b_M_stepsNow⟩, ⟨_, rfl, b_M_fallenNow⟩, rfl, rfl, rfl, rfl, rfl, ⟨_, rfl, b_M_isKept⟩, trivial⟩, ⟨rfl, rfl, b_M_now⟩, ⟨rfl, rfl, b_M_kept⟩, trivial⟩⟩

def HX_undo1R : List AC := hc_b5aa9fcafe
set_option maxRecDepth 100000 in
theorem x_undo1R {l : Launch} : conOkX (MetP l 1 yX12_undo cX12_undo 1 (some .boolean) 0 0) [] HX_undo1R HX_undo1R (fun t => Nat.beq t 208) (fun _ => True) (fun τ τ' y => ∀ i, i < 8 → decA (τ' 208) i = decA (τ 209) i) := by
  intro τ hΦ hP h hh
  have z := all2_cons hh
  clear hh
  obtain ⟨e0, h, rfl, g0, hh⟩ := z
  rcases e0 with ⟨t0, n0, f0⟩ | ⟨ci, fs⟩
  · exact g0.elim
  obtain ⟨rfl, gf⟩ := g0
  have z := all2_cons gf
  clear gf
  obtain ⟨v0, fs, rfl, q0, gf⟩ := z
  cases (q0 : v0 = .inr (some (.inl 1)))
  have z := all2_cons gf
  clear gf
  obtain ⟨v0, fs, rfl, q0, gf⟩ := z
  cases gT_r (τ := τ) (t := 0) (v := v0) rfl q0
  have z := all2_cons gf
  clear gf
  obtain ⟨v0, fs, rfl, q0, gf⟩ := z
  cases (q0 : v0 = .inr (some (.inl 2)))
  have z := all2_cons gf
  clear gf
  obtain ⟨v0, fs, rfl, q0, gf⟩ := z
  cases gT_r (τ := τ) (t := 1) (v := v0) rfl q0
  have z := all2_cons gf
  clear gf
  obtain ⟨v0, fs, rfl, q0, gf⟩ := z
  cases gT_r (τ := τ) (t := 2) (v := v0) rfl q0
  have z := all2_cons gf
  clear gf
  obtain ⟨v0, fs, rfl, q0, gf⟩ := z
  cases gT_r (τ := τ) (t := 3) (v := v0) rfl q0
  have z := all2_cons gf
  clear gf
  obtain ⟨v0, fs, rfl, q0, gf⟩ := z
  cases gT_r (τ := τ) (t := 4) (v := v0) rfl q0
  have z := all2_cons gf
  clear gf
  obtain ⟨v0, fs, rfl, q0, gf⟩ := z
  cases gT_r (τ := τ) (t := 5) (v := v0) rfl q0
  have z := all2_cons gf
  clear gf
  obtain ⟨v0, fs, rfl, q0, gf⟩ := z
  obtain ⟨M_stampMany, rfl, e_M_stampMany, b_M_stampMany⟩ := gT_x (τ := τ) (t := 205) (v := v0) rfl q0
  have z := all2_cons gf
  clear gf
  obtain ⟨v0, fs, rfl, q0, gf⟩ := z
  cases gT_r (τ := τ) (t := 6) (v := v0) rfl q0
  have z := all2_cons gf
  clear gf
  obtain ⟨v0, fs, rfl, q0, gf⟩ := z
  obtain ⟨M_taped, rfl, e_M_taped, b_M_taped⟩ := gT_x (τ := τ) (t := 202) (v := v0) rfl q0
  have z := all2_cons gf
  clear gf
  obtain ⟨v0, fs, rfl, q0, gf⟩ := z
  obtain ⟨M_place0, rfl, b_M_place0⟩ := q0
  have z := all2_cons gf
  clear gf
  obtain ⟨v0, fs, rfl, q0, gf⟩ := z
  obtain ⟨M_length0, rfl, b_M_length0⟩ := q0
  have z := all2_cons gf
  clear gf
  obtain ⟨v0, fs, rfl, q0, gf⟩ := z
  obtain ⟨M_fault, rfl, b_M_fault⟩ := q0
  have z := all2_cons gf
  clear gf
  obtain ⟨v0, fs, rfl, q0, gf⟩ := z
  obtain ⟨M_number0, rfl, b_M_number0⟩ := q0
  have z := all2_cons gf
  clear gf
  obtain ⟨v0, fs, rfl, q0, gf⟩ := z
  obtain ⟨M_open, rfl, b_M_open⟩ := q0
  have z := all2_cons gf
  clear gf
  obtain ⟨v0, fs, rfl, q0, gf⟩ := z
  obtain ⟨M_codeMany, rfl, b_M_codeMany⟩ := q0
  have z := all2_cons gf
  clear gf
  obtain ⟨v0, fs, rfl, q0, gf⟩ := z
  obtain ⟨M_waiting, rfl, b_M_waiting⟩ := q0
  have z := all2_cons gf
  clear gf
  obtain ⟨v0, fs, rfl, q0, gf⟩ := z
  obtain ⟨M_saidMany, rfl, b_M_saidMany⟩ := q0
  have z := all2_cons gf
  clear gf
  obtain ⟨v0, fs, rfl, q0, gf⟩ := z
  obtain ⟨M_clauses, rfl, e_M_clauses, b_M_clauses⟩ := gT_x (τ := τ) (t := 200) (v := v0) rfl q0
  have z := all2_cons gf
  clear gf
  obtain ⟨v0, fs, rfl, q0, gf⟩ := z
  cases gT_r (τ := τ) (t := 7) (v := v0) rfl q0
  have z := all2_cons gf
  clear gf
  obtain ⟨v0, fs, rfl, q0, gf⟩ := z
  cases gT_r (τ := τ) (t := 8) (v := v0) rfl q0
  have z := all2_cons gf
  clear gf
  obtain ⟨v0, fs, rfl, q0, gf⟩ := z
  cases gT_r (τ := τ) (t := 9) (v := v0) rfl q0
  have z := all2_cons gf
  clear gf
  obtain ⟨v0, fs, rfl, q0, gf⟩ := z
  cases gT_r (τ := τ) (t := 10) (v := v0) rfl q0
  have z := all2_cons gf
  clear gf
  obtain ⟨v0, fs, rfl, q0, gf⟩ := z
  cases gT_r (τ := τ) (t := 11) (v := v0) rfl q0
  have z := all2_cons gf
  clear gf
  obtain ⟨v0, fs, rfl, q0, gf⟩ := z
  cases gT_r (τ := τ) (t := 12) (v := v0) rfl q0
  have z := all2_cons gf
  clear gf
  obtain ⟨v0, fs, rfl, q0, gf⟩ := z
  cases gT_r (τ := τ) (t := 13) (v := v0) rfl q0
  have z := all2_cons gf
  clear gf
  obtain ⟨v0, fs, rfl, q0, gf⟩ := z
  cases gT_r (τ := τ) (t := 14) (v := v0) rfl q0
  have z := all2_cons gf
  clear gf
  obtain ⟨v0, fs, rfl, q0, gf⟩ := z
  cases gT_r (τ := τ) (t := 15) (v := v0) rfl q0
  have z := all2_cons gf
  clear gf
  obtain ⟨v0, fs, rfl, q0, gf⟩ := z
  cases gT_r (τ := τ) (t := 16) (v := v0) rfl q0
  have z := all2_cons gf
  clear gf
  obtain ⟨v0, fs, rfl, q0, gf⟩ := z
  cases gT_r (τ := τ) (t := 17) (v := v0) rfl q0
  have z := all2_cons gf
  clear gf
  obtain ⟨v0, fs, rfl, q0, gf⟩ := z
  cases gT_r (τ := τ) (t := 18) (v := v0) rfl q0
  have z := all2_cons gf
  clear gf
  obtain ⟨v0, fs, rfl, q0, gf⟩ := z
  cases gT_r (τ := τ) (t := 19) (v := v0) rfl q0
  have z := all2_cons gf
  clear gf
  obtain ⟨v0, fs, rfl, q0, gf⟩ := z
  cases gT_r (τ := τ) (t := 20) (v := v0) rfl q0
  have z := all2_cons gf
  clear gf
  obtain ⟨v0, fs, rfl, q0, gf⟩ := z
  cases gT_r (τ := τ) (t := 21) (v := v0) rfl q0
  have z := all2_cons gf
  clear gf
  obtain ⟨v0, fs, rfl, q0, gf⟩ := z
  cases gT_r (τ := τ) (t := 22) (v := v0) rfl q0
  have z := all2_cons gf
  clear gf
  obtain ⟨v0, fs, rfl, q0, gf⟩ := z
  cases gT_r (τ := τ) (t := 23) (v := v0) rfl q0
  have z := all2_cons gf
  clear gf
  obtain ⟨v0, fs, rfl, q0, gf⟩ := z
  obtain ⟨M_newMany, rfl, b_M_newMany⟩ := q0
  have z := all2_cons gf
  clear gf
  obtain ⟨v0, fs, rfl, q0, gf⟩ := z
  obtain ⟨M_rounds, rfl, b_M_rounds⟩ := q0
  have z := all2_cons gf
  clear gf
  obtain ⟨v0, fs, rfl, q0, gf⟩ := z
  obtain ⟨M_stampFrom, rfl, b_M_stampFrom⟩ := q0
  have z := all2_cons gf
  clear gf
  obtain ⟨v0, fs, rfl, q0, gf⟩ := z
  obtain ⟨M_stampTimes, rfl, b_M_stampTimes⟩ := q0
  have z := all2_cons gf
  clear gf
  obtain ⟨v0, fs, rfl, q0, gf⟩ := z
  obtain ⟨M_lines, rfl, b_M_lines⟩ := q0
  have z := all2_cons gf
  clear gf
  obtain ⟨v0, fs, rfl, q0, gf⟩ := z
  obtain ⟨M_spot0, rfl, b_M_spot0⟩ := q0
  have z := all2_cons gf
  clear gf
  obtain ⟨v0, fs, rfl, q0, gf⟩ := z
  obtain ⟨M_pullAcross, rfl, b_M_pullAcross⟩ := q0
  have z := all2_cons gf
  clear gf
  obtain ⟨v0, fs, rfl, q0, gf⟩ := z
  obtain ⟨M_pullAlong, rfl, b_M_pullAlong⟩ := q0
  have z := all2_cons gf
  clear gf
  obtain ⟨v0, fs, rfl, q0, gf⟩ := z
  obtain ⟨M_stepsNow, rfl, b_M_stepsNow⟩ := q0
  have z := all2_cons gf
  clear gf
  obtain ⟨v0, fs, rfl, q0, gf⟩ := z
  obtain ⟨M_fallenNow, rfl, b_M_fallenNow⟩ := q0
  have z := all2_cons gf
  clear gf
  obtain ⟨v0, fs, rfl, q0, gf⟩ := z
  cases gT_r (τ := τ) (t := 24) (v := v0) rfl q0
  have z := all2_cons gf
  clear gf
  obtain ⟨v0, fs, rfl, q0, gf⟩ := z
  cases gT_r (τ := τ) (t := 25) (v := v0) rfl q0
  have z := all2_cons gf
  clear gf
  obtain ⟨v0, fs, rfl, q0, gf⟩ := z
  cases gT_r (τ := τ) (t := 26) (v := v0) rfl q0
  have z := all2_cons gf
  clear gf
  obtain ⟨v0, fs, rfl, q0, gf⟩ := z
  cases gT_r (τ := τ) (t := 27) (v := v0) rfl q0
  have z := all2_cons gf
  clear gf
  obtain ⟨v0, fs, rfl, q0, gf⟩ := z
  cases gT_r (τ := τ) (t := 28) (v := v0) rfl q0
  have z := all2_cons gf
  clear gf
  obtain ⟨v0, fs, rfl, q0, gf⟩ := z
  obtain ⟨M_isKept, rfl, b_M_isKept⟩ := q0
  cases fs with
  | cons _ _ => exact gf.elim
  | nil =>
    have z := all2_cons hh
    clear hh
    obtain ⟨e1, h, rfl, g1, hh⟩ := z
    rcases e1 with ⟨t1, n1, M_now⟩ | ⟨ci, fs⟩
    rotate_left
    · exact g1.elim
    obtain ⟨et, en, b_M_now⟩ := g1
    cases (et : t1 = 0)
    cases en
    have z := all2_cons hh
    clear hh
    obtain ⟨e1, h, rfl, g1, hh⟩ := z
    rcases e1 with ⟨t1, n1, M_kept⟩ | ⟨ci, fs⟩
    rotate_left
    · exact g1.elim
    obtain ⟨et, en, b_M_kept⟩ := g1
    cases (et : t1 = 0)
    cases en
    cases h with
    | cons _ _ => exact hh.elim
    | nil =>
      obtain rfl : M_isKept = 1 := i32eq.mpr (show M_isKept.toInt = 1 by omega)
      have sg := seg6_of (t := 601) rfl rfl b_M_kept
      refine c_X12_undo.mono (fun r h' hp => ?_)
      obtain ⟨nw, rfl, k1, rfl⟩ := hp
      exact ⟨upL τ 208 (encA nw 8), 1, hΦ, fun t ht => upL_ne (ch_ne ht rfl), rfl, fun i hi => (encA_ok hi).trans ((k1 i (by omega)).trans (sg.2 i hi)), ⟨⟨rfl, rfl, rfl, rfl, rfl, rfl, rfl, rfl, rfl, gT_mk rfl e_M_stampMany b_M_stampMany, rfl, gT_mk rfl e_M_taped b_M_taped, ⟨_, rfl, b_M_place0⟩, ⟨_, rfl, b_M_length0⟩, ⟨_, rfl, b_M_fault⟩, ⟨_, rfl, b_M_number0⟩, ⟨_, rfl, b_M_open⟩, ⟨_, rfl, b_M_codeMany⟩, ⟨_, rfl, b_M_waiting⟩, ⟨_, rfl, b_M_saidMany⟩, gT_mk rfl e_M_clauses b_M_clauses, rfl, rfl, rfl, rfl, rfl, rfl, rfl, rfl, rfl, rfl, rfl, rfl, rfl, rfl, rfl, rfl, rfl, ⟨_, rfl, b_M_newMany⟩, ⟨_, rfl, b_M_rounds⟩, ⟨_, rfl, b_M_stampFrom⟩, ⟨_, rfl, b_M_stampTimes⟩, ⟨_, rfl, b_M_lines⟩, ⟨_, rfl, b_M_spot0⟩, ⟨_, rfl, b_M_pullAcross⟩, ⟨_, rfl, b_M_pullAlong⟩, ⟨_, rfl, b_M_stepsNow⟩, ⟨_, rfl, b_M_fallenNow⟩, rfl, rfl, rfl, rfl, rfl, ⟨_, rfl, b_M_isKept⟩, trivial⟩, ⟨rfl, rfl, of_seg6 ⟨fun i i1 i2 => by rw [k1 i (by omega)]; exact sg.1 i i1 i2, fun i hi => (encA_ok hi).symm⟩⟩, ⟨rfl, rfl, b_M_kept⟩, trivial⟩⟩

theorem W_of {f g : Nat → Int32} (h : ∀ i, i < 384 → f i = g i) : ∃ W : Nat → Bool, (∀ i, i ≤ 383 → (f i = 0 ↔ W i = false)) ∧ (∀ i, i ≤ 383 → (g i = 0 ↔ W i = false)) := by
  refine ⟨fun i => !decide (f i = 0), fun i _ => ?_, fun i hi => ?_⟩
  · dsimp only
    by_cases e : f i = 0
    · rw [decide_eq_true e]
      exact ⟨fun _ => rfl, fun _ => e⟩
    · rw [decide_eq_false e]
      exact ⟨fun z => absurd z e, fun z => by cases z⟩
  · dsimp only
    rw [← h i (by omega)]
    by_cases e : f i = 0
    · rw [decide_eq_true e]
      exact ⟨fun _ => rfl, fun _ => e⟩
    · rw [decide_eq_false e]
      exact ⟨fun z => absurd z e, fun z => by cases z⟩
def HX_stampedC : List AC := hc_68f6df3058
def HY_stampedC : List AC := hc_104c826299
set_option maxRecDepth 100000 in
theorem x_stampedC {l : Launch} {n p w c T : Nat} {q d : Nat} {W : Nat → Bool} {fm fw fx fy : Nat → Nat} (h1 : 1 ≤ n ∧ n ≤ 9) (h2 : p ≤ 383) (h4 : q ≤ 383) (h5 : d ≤ 60) (h3 : w ≤ 1) (hc : c ≤ 48) : conOkX (MetP l 7 yX11_stamped cX11_stamped 6 (some .int) 0 0) [nI n, nI p, nI q, nI d, nI w] HX_stampedC HY_stampedC (fun _ => false) (fun τ => RCW τ c T fm fw fx fy ∧ ∀ i, i ≤ 383 → (decA (τ 263) i = 0 ↔ W i = false)) (fun τ _ y => y = stV c T fm fw fx fy (ob (decA (τ 250))) W n p q d w) := by
  intro τ hΦ hP h hh
  have z := all2_cons hh
  clear hh
  obtain ⟨e0, h, rfl, g0, hh⟩ := z
  rcases e0 with ⟨t0, n0, f0⟩ | ⟨ci, fs⟩
  · exact g0.elim
  obtain ⟨rfl, gf⟩ := g0
  have z := all2_cons gf
  clear gf
  obtain ⟨v0, fs, rfl, q0, gf⟩ := z
  cases (q0 : v0 = .inr (some (.inl 1)))
  have z := all2_cons gf
  clear gf
  obtain ⟨v0, fs, rfl, q0, gf⟩ := z
  cases (q0 : v0 = .inr (some (.inl 5)))
  have z := all2_cons gf
  clear gf
  obtain ⟨v0, fs, rfl, q0, gf⟩ := z
  cases gT_r (τ := τ) (t := 0) (v := v0) rfl q0
  have z := all2_cons gf
  clear gf
  obtain ⟨v0, fs, rfl, q0, gf⟩ := z
  cases gT_r (τ := τ) (t := 1) (v := v0) rfl q0
  have z := all2_cons gf
  clear gf
  obtain ⟨v0, fs, rfl, q0, gf⟩ := z
  cases gT_r (τ := τ) (t := 2) (v := v0) rfl q0
  have z := all2_cons gf
  clear gf
  obtain ⟨v0, fs, rfl, q0, gf⟩ := z
  cases gT_r (τ := τ) (t := 3) (v := v0) rfl q0
  have z := all2_cons gf
  clear gf
  obtain ⟨v0, fs, rfl, q0, gf⟩ := z
  cases (q0 : v0 = .inr (some (.inl 3)))
  have z := all2_cons gf
  clear gf
  obtain ⟨v0, fs, rfl, q0, gf⟩ := z
  cases gT_r (τ := τ) (t := 4) (v := v0) rfl q0
  have z := all2_cons gf
  clear gf
  obtain ⟨v0, fs, rfl, q0, gf⟩ := z
  cases gT_r (τ := τ) (t := 5) (v := v0) rfl q0
  have z := all2_cons gf
  clear gf
  obtain ⟨v0, fs, rfl, q0, gf⟩ := z
  cases gT_r (τ := τ) (t := 6) (v := v0) rfl q0
  have z := all2_cons gf
  clear gf
  obtain ⟨v0, fs, rfl, q0, gf⟩ := z
  cases gT_r (τ := τ) (t := 7) (v := v0) rfl q0
  have z := all2_cons gf
  clear gf
  obtain ⟨v0, fs, rfl, q0, gf⟩ := z
  cases gT_r (τ := τ) (t := 8) (v := v0) rfl q0
  have z := all2_cons gf
  clear gf
  obtain ⟨v0, fs, rfl, q0, gf⟩ := z
  cases gT_r (τ := τ) (t := 9) (v := v0) rfl q0
  have z := all2_cons gf
  clear gf
  obtain ⟨v0, fs, rfl, q0, gf⟩ := z
  cases gT_r (τ := τ) (t := 10) (v := v0) rfl q0
  have z := all2_cons gf
  clear gf
  obtain ⟨v0, fs, rfl, q0, gf⟩ := z
  obtain ⟨HS_wasKept, rfl, e_HS_wasKept, b_HS_wasKept⟩ := gT_x (τ := τ) (t := 201) (v := v0) rfl q0
  cases fs with
  | cons _ _ => exact gf.elim
  | nil =>
    have z := all2_cons hh
    clear hh
    obtain ⟨e0, h, rfl, g0, hh⟩ := z
    rcases e0 with ⟨t0, n0, f0⟩ | ⟨ci, fs⟩
    · exact g0.elim
    obtain ⟨rfl, gf⟩ := g0
    have z := all2_cons gf
    clear gf
    obtain ⟨v0, fs, rfl, q0, gf⟩ := z
    cases (q0 : v0 = .inr (some (.inl 2)))
    have z := all2_cons gf
    clear gf
    obtain ⟨v0, fs, rfl, q0, gf⟩ := z
    obtain ⟨Tape_size, rfl, b_Tape_size⟩ := q0
    cases fs with
    | cons _ _ => exact gf.elim
    | nil =>
      have z := all2_cons hh
      clear hh
      obtain ⟨e1, h, rfl, g1, hh⟩ := z
      rcases e1 with ⟨t1, n1, Tape_bytes⟩ | ⟨ci, fs⟩
      rotate_left
      · exact g1.elim
      obtain ⟨et, en, b_Tape_bytes⟩ := g1
      cases (et : t1 = 0)
      cases en
      have z := all2_cons hh
      clear hh
      obtain ⟨e0, h, rfl, g0, hh⟩ := z
      rcases e0 with ⟨t0, n0, f0⟩ | ⟨ci, fs⟩
      · exact g0.elim
      obtain ⟨rfl, gf⟩ := g0
      have z := all2_cons gf
      clear gf
      obtain ⟨v0, fs, rfl, q0, gf⟩ := z
      cases (q0 : v0 = .inr (some (.inl 5)))
      have z := all2_cons gf
      clear gf
      obtain ⟨v0, fs, rfl, q0, gf⟩ := z
      cases (q0 : v0 = .inr (some (.inl 4)))
      have z := all2_cons gf
      clear gf
      obtain ⟨v0, fs, rfl, q0, gf⟩ := z
      obtain ⟨Crew_size, rfl, b_Crew_size⟩ := q0
      have z := all2_cons gf
      clear gf
      obtain ⟨v0, fs, rfl, q0, gf⟩ := z
      obtain ⟨Crew_acrossSum, rfl, b_Crew_acrossSum⟩ := q0
      have z := all2_cons gf
      clear gf
      obtain ⟨v0, fs, rfl, q0, gf⟩ := z
      obtain ⟨Crew_alongSum, rfl, b_Crew_alongSum⟩ := q0
      cases fs with
      | cons _ _ => exact gf.elim
      | nil =>
        have z := all2_cons hh
        clear hh
        obtain ⟨e1, h, rfl, g1, hh⟩ := z
        rcases e1 with ⟨t1, n1, Crew_members⟩ | ⟨ci, fs⟩
        rotate_left
        · exact g1.elim
        obtain ⟨et, en, b_Crew_members⟩ := g1
        cases (et : t1 = 0)
        cases en
        have z := all2_cons hh
        clear hh
        obtain ⟨e0, h, rfl, g0, hh⟩ := z
        rcases e0 with ⟨t0, n0, f0⟩ | ⟨ci, fs⟩
        · exact g0.elim
        obtain ⟨rfl, gf⟩ := g0
        have z := all2_cons gf
        clear gf
        obtain ⟨v0, fs, rfl, q0, gf⟩ := z
        cases (q0 : v0 = .inr (some (.inl 6)))
        have z := all2_cons gf
        clear gf
        obtain ⟨v0, fs, rfl, q0, gf⟩ := z
        cases (q0 : v0 = .inr (some (.inl 7)))
        have z := all2_cons gf
        clear gf
        obtain ⟨v0, fs, rfl, q0, gf⟩ := z
        cases (q0 : v0 = .inr (some (.inl 8)))
        have z := all2_cons gf
        clear gf
        obtain ⟨v0, fs, rfl, q0, gf⟩ := z
        cases (q0 : v0 = .inr (some (.inl 9)))
        have z := all2_cons gf
        clear gf
        obtain ⟨v0, fs, rfl, q0, gf⟩ := z
        cases (q0 : v0 = .inr (some (.inl 10)))
        have z := all2_cons gf
        clear gf
        obtain ⟨v0, fs, rfl, q0, gf⟩ := z
        obtain ⟨Rep_toldMints, rfl, e_Rep_toldMints, b_Rep_toldMints⟩ := gT_x (τ := τ) (t := 203) (v := v0) rfl q0
        have z := all2_cons gf
        clear gf
        obtain ⟨v0, fs, rfl, q0, gf⟩ := z
        obtain ⟨Rep_walls, rfl, b_Rep_walls⟩ := q0
        have z := all2_cons gf
        clear gf
        obtain ⟨v0, fs, rfl, q0, gf⟩ := z
        obtain ⟨Rep_stamps, rfl, e_Rep_stamps, b_Rep_stamps⟩ := gT_x (τ := τ) (t := 204) (v := v0) rfl q0
        cases fs with
        | cons _ _ => exact gf.elim
        | nil =>
          have z := all2_cons hh
          clear hh
          obtain ⟨e1, h, rfl, g1, hh⟩ := z
          rcases e1 with ⟨t1, n1, Rep_mintX⟩ | ⟨ci, fs⟩
          rotate_left
          · exact g1.elim
          obtain ⟨et, en, b_Rep_mintX⟩ := g1
          cases (et : t1 = 0)
          cases en
          have z := all2_cons hh
          clear hh
          obtain ⟨e1, h, rfl, g1, hh⟩ := z
          rcases e1 with ⟨t1, n1, Rep_mintY⟩ | ⟨ci, fs⟩
          rotate_left
          · exact g1.elim
          obtain ⟨et, en, b_Rep_mintY⟩ := g1
          cases (et : t1 = 0)
          cases en
          have z := all2_cons hh
          clear hh
          obtain ⟨e1, h, rfl, g1, hh⟩ := z
          rcases e1 with ⟨t1, n1, Rep_wall⟩ | ⟨ci, fs⟩
          rotate_left
          · exact g1.elim
          obtain ⟨et, en, b_Rep_wall⟩ := g1
          cases (et : t1 = 2)
          cases en
          have z := all2_cons hh
          clear hh
          obtain ⟨e1, h, rfl, g1, hh⟩ := z
          rcases e1 with ⟨t1, n1, Rep_mintOf⟩ | ⟨ci, fs⟩
          rotate_left
          · exact g1.elim
          obtain ⟨et, en, b_Rep_mintOf⟩ := g1
          cases (et : t1 = 0)
          cases en
          have z := all2_cons hh
          clear hh
          obtain ⟨e1, h, rfl, g1, hh⟩ := z
          rcases e1 with ⟨t1, n1, Rep_grainsOf⟩ | ⟨ci, fs⟩
          rotate_left
          · exact g1.elim
          obtain ⟨et, en, b_Rep_grainsOf⟩ := g1
          cases (et : t1 = 0)
          cases en
          cases h with
          | cons _ _ => exact hh.elim
          | nil =>
            obtain ⟨s, hs, rfl⟩ := rng_n (x := Tape_size) (k := 260) (by omega) b_Tape_size.2
            have es := sz_n (c := s) (by omega)
            obtain ⟨rF, eF⟩ := rg_x rfl b_Tape_bytes
            obtain ⟨w1, w2, w3, w4⟩ := hP.1
            obtain ⟨rX, eX⟩ := rg_x rfl b_Rep_mintX
            obtain ⟨rY, eY⟩ := rg_x rfl b_Rep_mintY
            obtain ⟨rM, eM⟩ := rg_x rfl b_Rep_mintOf
            obtain ⟨rG, eG⟩ := rg_x rfl b_Rep_grainsOf
            obtain rfl : Rep_stamps = nI c := e_Rep_stamps.trans w1
            obtain rfl : Rep_toldMints = nI T := e_Rep_toldMints.trans w2
            obtain ⟨rW, eW⟩ := rg_x rfl b_Rep_wall
            have w5 := hP.2
            refine (c_X11_stamped (o := ob (decA (τ 250))) (t := s) h1.1 h1.2 h2 h4 h5 h3 hs (by omega) hc (fun s hs => ⟨(w3 s hs).1, (w3 s hs).2.1, (eM s (by omega)).trans (w3 s hs).2.2.1, (eG s (by omega)).trans (w3 s hs).2.2.2⟩) (fun m hm ht => ⟨(w4 m hm ht).1, (w4 m hm ht).2.1, (eX m hm).trans (w4 m hm ht).2.2.1, (eY m hm).trans (w4 m hm ht).2.2.2⟩) (fun i hi => by rw [eW i (by omega)]; exact w5 i hi) (fun i hi => ob_ok (by omega) (eF i (by omega)) (rF i (by omega)))).mono (fun r h' hp => ?_)
            obtain ⟨k, mb, u_, v_, k9, rfl, rfl⟩ := hp
            exact ⟨τ, _, hΦ, fun _ _ => rfl, rfl, rfl, ⟨⟨rfl, rfl, rfl, rfl, rfl, rfl, rfl, rfl, rfl, rfl, rfl, rfl, rfl, rfl, rfl, gT_mk rfl e_HS_wasKept b_HS_wasKept, trivial⟩, ⟨rfl, rfl, ⟨0, rfl, by decide, by decide⟩, trivial⟩, ⟨rfl, rfl, b_Tape_bytes⟩, ⟨rfl, rfl, rfl, ⟨_, rfl, nr9 k9⟩, topA_ok _, topA_ok _, trivial⟩, ⟨rfl, rfl, of_rg rg_top⟩, ⟨rfl, rfl, rfl, rfl, rfl, rfl, gT_mk rfl e_Rep_toldMints b_Rep_toldMints, ⟨_, rfl, b_Rep_walls⟩, gT_mk rfl e_Rep_stamps b_Rep_stamps, trivial⟩, ⟨rfl, rfl, b_Rep_mintX⟩, ⟨rfl, rfl, b_Rep_mintY⟩, ⟨rfl, rfl, b_Rep_wall⟩, ⟨rfl, rfl, b_Rep_mintOf⟩, ⟨rfl, rfl, b_Rep_grainsOf⟩, trivial⟩⟩

def HX_stampedR : List AC := hc_33cf0f51ef
def HY_stampedR : List AC := hc_d1c009b457
set_option maxRecDepth 100000 in
theorem x_stampedR {l : Launch} {n p w c T : Nat} {q d : Nat} {W : Nat → Bool} {fm fw fx fy : Nat → Nat} (h1 : 1 ≤ n ∧ n ≤ 9) (h2 : p ≤ 383) (h4 : q ≤ 383) (h5 : d ≤ 60) (h3 : w ≤ 1) (hc : c ≤ 48) : conOkX (MetP l 5 yX12_stamped cX12_stamped 8 (some .int) 0 0) [nI n, nI p, nI q, nI d, nI w] HX_stampedR HY_stampedR (fun _ => false) (fun τ => RRW τ c T fm fw fx fy ∧ ∀ i, i ≤ 383 → (decA (τ 264) i = 0 ↔ W i = false)) (fun τ _ y => y = stV c T fm fw fx fy (ob (fun i => f_and (decA (τ 251) i) 255)) W n p q d w) := by
  intro τ hΦ hP h hh
  have z := all2_cons hh
  clear hh
  obtain ⟨e0, h, rfl, g0, hh⟩ := z
  rcases e0 with ⟨t0, n0, f0⟩ | ⟨ci, fs⟩
  · exact g0.elim
  obtain ⟨rfl, gf⟩ := g0
  have z := all2_cons gf
  clear gf
  obtain ⟨v0, fs, rfl, q0, gf⟩ := z
  cases gT_r (τ := τ) (t := 0) (v := v0) rfl q0
  have z := all2_cons gf
  clear gf
  obtain ⟨v0, fs, rfl, q0, gf⟩ := z
  cases gT_r (τ := τ) (t := 1) (v := v0) rfl q0
  have z := all2_cons gf
  clear gf
  obtain ⟨v0, fs, rfl, q0, gf⟩ := z
  cases gT_r (τ := τ) (t := 2) (v := v0) rfl q0
  have z := all2_cons gf
  clear gf
  obtain ⟨v0, fs, rfl, q0, gf⟩ := z
  cases (q0 : v0 = .inr (some (.inl 1)))
  have z := all2_cons gf
  clear gf
  obtain ⟨v0, fs, rfl, q0, gf⟩ := z
  cases (q0 : v0 = .inr (some (.inl 2)))
  have z := all2_cons gf
  clear gf
  obtain ⟨v0, fs, rfl, q0, gf⟩ := z
  cases (q0 : v0 = .inr (some (.inl 3)))
  have z := all2_cons gf
  clear gf
  obtain ⟨v0, fs, rfl, q0, gf⟩ := z
  cases (q0 : v0 = .inr (some (.inl 4)))
  have z := all2_cons gf
  clear gf
  obtain ⟨v0, fs, rfl, q0, gf⟩ := z
  cases gT_r (τ := τ) (t := 3) (v := v0) rfl q0
  have z := all2_cons gf
  clear gf
  obtain ⟨v0, fs, rfl, q0, gf⟩ := z
  obtain ⟨M_stampMany, rfl, e_M_stampMany, b_M_stampMany⟩ := gT_x (τ := τ) (t := 205) (v := v0) rfl q0
  have z := all2_cons gf
  clear gf
  obtain ⟨v0, fs, rfl, q0, gf⟩ := z
  cases (q0 : v0 = .inr (some (.inl 5)))
  have z := all2_cons gf
  clear gf
  obtain ⟨v0, fs, rfl, q0, gf⟩ := z
  obtain ⟨M_taped, rfl, b_M_taped⟩ := q0
  have z := all2_cons gf
  clear gf
  obtain ⟨v0, fs, rfl, q0, gf⟩ := z
  obtain ⟨M_place0, rfl, b_M_place0⟩ := q0
  have z := all2_cons gf
  clear gf
  obtain ⟨v0, fs, rfl, q0, gf⟩ := z
  obtain ⟨M_length0, rfl, b_M_length0⟩ := q0
  have z := all2_cons gf
  clear gf
  obtain ⟨v0, fs, rfl, q0, gf⟩ := z
  obtain ⟨M_fault, rfl, b_M_fault⟩ := q0
  have z := all2_cons gf
  clear gf
  obtain ⟨v0, fs, rfl, q0, gf⟩ := z
  obtain ⟨M_number0, rfl, b_M_number0⟩ := q0
  have z := all2_cons gf
  clear gf
  obtain ⟨v0, fs, rfl, q0, gf⟩ := z
  obtain ⟨M_open, rfl, b_M_open⟩ := q0
  have z := all2_cons gf
  clear gf
  obtain ⟨v0, fs, rfl, q0, gf⟩ := z
  obtain ⟨M_codeMany, rfl, b_M_codeMany⟩ := q0
  have z := all2_cons gf
  clear gf
  obtain ⟨v0, fs, rfl, q0, gf⟩ := z
  obtain ⟨M_waiting, rfl, b_M_waiting⟩ := q0
  have z := all2_cons gf
  clear gf
  obtain ⟨v0, fs, rfl, q0, gf⟩ := z
  obtain ⟨M_saidMany, rfl, b_M_saidMany⟩ := q0
  have z := all2_cons gf
  clear gf
  obtain ⟨v0, fs, rfl, q0, gf⟩ := z
  obtain ⟨M_clauses, rfl, e_M_clauses, b_M_clauses⟩ := gT_x (τ := τ) (t := 200) (v := v0) rfl q0
  have z := all2_cons gf
  clear gf
  obtain ⟨v0, fs, rfl, q0, gf⟩ := z
  cases gT_r (τ := τ) (t := 4) (v := v0) rfl q0
  have z := all2_cons gf
  clear gf
  obtain ⟨v0, fs, rfl, q0, gf⟩ := z
  cases gT_r (τ := τ) (t := 5) (v := v0) rfl q0
  have z := all2_cons gf
  clear gf
  obtain ⟨v0, fs, rfl, q0, gf⟩ := z
  cases gT_r (τ := τ) (t := 6) (v := v0) rfl q0
  have z := all2_cons gf
  clear gf
  obtain ⟨v0, fs, rfl, q0, gf⟩ := z
  cases gT_r (τ := τ) (t := 7) (v := v0) rfl q0
  have z := all2_cons gf
  clear gf
  obtain ⟨v0, fs, rfl, q0, gf⟩ := z
  cases gT_r (τ := τ) (t := 8) (v := v0) rfl q0
  have z := all2_cons gf
  clear gf
  obtain ⟨v0, fs, rfl, q0, gf⟩ := z
  cases gT_r (τ := τ) (t := 9) (v := v0) rfl q0
  have z := all2_cons gf
  clear gf
  obtain ⟨v0, fs, rfl, q0, gf⟩ := z
  cases gT_r (τ := τ) (t := 10) (v := v0) rfl q0
  have z := all2_cons gf
  clear gf
  obtain ⟨v0, fs, rfl, q0, gf⟩ := z
  cases gT_r (τ := τ) (t := 11) (v := v0) rfl q0
  have z := all2_cons gf
  clear gf
  obtain ⟨v0, fs, rfl, q0, gf⟩ := z
  cases gT_r (τ := τ) (t := 12) (v := v0) rfl q0
  have z := all2_cons gf
  clear gf
  obtain ⟨v0, fs, rfl, q0, gf⟩ := z
  cases gT_r (τ := τ) (t := 13) (v := v0) rfl q0
  have z := all2_cons gf
  clear gf
  obtain ⟨v0, fs, rfl, q0, gf⟩ := z
  cases gT_r (τ := τ) (t := 14) (v := v0) rfl q0
  have z := all2_cons gf
  clear gf
  obtain ⟨v0, fs, rfl, q0, gf⟩ := z
  cases gT_r (τ := τ) (t := 15) (v := v0) rfl q0
  have z := all2_cons gf
  clear gf
  obtain ⟨v0, fs, rfl, q0, gf⟩ := z
  cases gT_r (τ := τ) (t := 16) (v := v0) rfl q0
  have z := all2_cons gf
  clear gf
  obtain ⟨v0, fs, rfl, q0, gf⟩ := z
  cases gT_r (τ := τ) (t := 17) (v := v0) rfl q0
  have z := all2_cons gf
  clear gf
  obtain ⟨v0, fs, rfl, q0, gf⟩ := z
  cases gT_r (τ := τ) (t := 18) (v := v0) rfl q0
  have z := all2_cons gf
  clear gf
  obtain ⟨v0, fs, rfl, q0, gf⟩ := z
  cases gT_r (τ := τ) (t := 19) (v := v0) rfl q0
  have z := all2_cons gf
  clear gf
  obtain ⟨v0, fs, rfl, q0, gf⟩ := z
  cases gT_r (τ := τ) (t := 20) (v := v0) rfl q0
  have z := all2_cons gf
  clear gf
  obtain ⟨v0, fs, rfl, q0, gf⟩ := z
  obtain ⟨M_newMany, rfl, b_M_newMany⟩ := q0
  have z := all2_cons gf
  clear gf
  obtain ⟨v0, fs, rfl, q0, gf⟩ := z
  obtain ⟨M_rounds, rfl, b_M_rounds⟩ := q0
  have z := all2_cons gf
  clear gf
  obtain ⟨v0, fs, rfl, q0, gf⟩ := z
  obtain ⟨M_stampFrom, rfl, b_M_stampFrom⟩ := q0
  have z := all2_cons gf
  clear gf
  obtain ⟨v0, fs, rfl, q0, gf⟩ := z
  obtain ⟨M_stampTimes, rfl, b_M_stampTimes⟩ := q0
  have z := all2_cons gf
  clear gf
  obtain ⟨v0, fs, rfl, q0, gf⟩ := z
  obtain ⟨M_lines, rfl, b_M_lines⟩ := q0
  have z := all2_cons gf
  clear gf
  obtain ⟨v0, fs, rfl, q0, gf⟩ := z
  obtain ⟨M_spot0, rfl, b_M_spot0⟩ := q0
  have z := all2_cons gf
  clear gf
  obtain ⟨v0, fs, rfl, q0, gf⟩ := z
  obtain ⟨M_pullAcross, rfl, b_M_pullAcross⟩ := q0
  have z := all2_cons gf
  clear gf
  obtain ⟨v0, fs, rfl, q0, gf⟩ := z
  obtain ⟨M_pullAlong, rfl, b_M_pullAlong⟩ := q0
  have z := all2_cons gf
  clear gf
  obtain ⟨v0, fs, rfl, q0, gf⟩ := z
  obtain ⟨M_stepsNow, rfl, b_M_stepsNow⟩ := q0
  have z := all2_cons gf
  clear gf
  obtain ⟨v0, fs, rfl, q0, gf⟩ := z
  obtain ⟨M_fallenNow, rfl, b_M_fallenNow⟩ := q0
  have z := all2_cons gf
  clear gf
  obtain ⟨v0, fs, rfl, q0, gf⟩ := z
  cases gT_r (τ := τ) (t := 21) (v := v0) rfl q0
  have z := all2_cons gf
  clear gf
  obtain ⟨v0, fs, rfl, q0, gf⟩ := z
  cases gT_r (τ := τ) (t := 22) (v := v0) rfl q0
  have z := all2_cons gf
  clear gf
  obtain ⟨v0, fs, rfl, q0, gf⟩ := z
  cases (q0 : v0 = .inr (some (.inl 6)))
  have z := all2_cons gf
  clear gf
  obtain ⟨v0, fs, rfl, q0, gf⟩ := z
  cases gT_r (τ := τ) (t := 23) (v := v0) rfl q0
  have z := all2_cons gf
  clear gf
  obtain ⟨v0, fs, rfl, q0, gf⟩ := z
  cases gT_r (τ := τ) (t := 24) (v := v0) rfl q0
  have z := all2_cons gf
  clear gf
  obtain ⟨v0, fs, rfl, q0, gf⟩ := z
  obtain ⟨M_isKept, rfl, e_M_isKept, b_M_isKept⟩ := gT_x (τ := τ) (t := 201) (v := v0) rfl q0
  cases fs with
  | cons _ _ => exact gf.elim
  | nil =>
    have z := all2_cons hh
    clear hh
    obtain ⟨e1, h, rfl, g1, hh⟩ := z
    rcases e1 with ⟨t1, n1, M_mintAt⟩ | ⟨ci, fs⟩
    rotate_left
    · exact g1.elim
    obtain ⟨et, en, b_M_mintAt⟩ := g1
    cases (et : t1 = 0)
    cases en
    have z := all2_cons hh
    clear hh
    obtain ⟨e1, h, rfl, g1, hh⟩ := z
    rcases e1 with ⟨t1, n1, M_mintOf⟩ | ⟨ci, fs⟩
    rotate_left
    · exact g1.elim
    obtain ⟨et, en, b_M_mintOf⟩ := g1
    cases (et : t1 = 0)
    cases en
    have z := all2_cons hh
    clear hh
    obtain ⟨e1, h, rfl, g1, hh⟩ := z
    rcases e1 with ⟨t1, n1, M_wholeOf⟩ | ⟨ci, fs⟩
    rotate_left
    · exact g1.elim
    obtain ⟨et, en, b_M_wholeOf⟩ := g1
    cases (et : t1 = 0)
    cases en
    have z := all2_cons hh
    clear hh
    obtain ⟨e1, h, rfl, g1, hh⟩ := z
    rcases e1 with ⟨t1, n1, M_isWall⟩ | ⟨ci, fs⟩
    rotate_left
    · exact g1.elim
    obtain ⟨et, en, b_M_isWall⟩ := g1
    cases (et : t1 = 2)
    cases en
    have z := all2_cons hh
    clear hh
    obtain ⟨e1, h, rfl, g1, hh⟩ := z
    rcases e1 with ⟨t1, n1, M_tape⟩ | ⟨ci, fs⟩
    rotate_left
    · exact g1.elim
    obtain ⟨et, en, b_M_tape⟩ := g1
    cases (et : t1 = 1)
    cases en
    have z := all2_cons hh
    clear hh
    obtain ⟨e1, h, rfl, g1, hh⟩ := z
    rcases e1 with ⟨t1, n1, M_someOf⟩ | ⟨ci, fs⟩
    rotate_left
    · exact g1.elim
    obtain ⟨et, en, b_M_someOf⟩ := g1
    cases (et : t1 = 0)
    cases en
    cases h with
    | cons _ _ => exact hh.elim
    | nil =>
      obtain ⟨s, hs, rfl⟩ := rng_n (x := M_taped) (k := 260) (by omega) b_M_taped.2
      have es := sz_n (c := s) (by omega)
      obtain ⟨rF, eF⟩ := rg_x rfl b_M_tape
      obtain ⟨w1, w3, w4⟩ := hP.1
      obtain ⟨rA, eA⟩ := rg_x rfl b_M_mintAt
      obtain ⟨rM, eM⟩ := rg_x rfl b_M_mintOf
      obtain ⟨rG, eG⟩ := rg_x rfl b_M_wholeOf
      obtain rfl : M_stampMany = nI c := e_M_stampMany.trans w1
      obtain ⟨rW, eW⟩ := rg_x rfl b_M_isWall
      have w5 := hP.2
      refine (x_X12_stamped (o := ob (fun i => f_and (decA (τ 251) i) 255)) (t := s) (T := T) (fx := fx) (fy := fy) h1.1 h1.2 h2 h4 h5 h3 hs (by omega) hc (fun s hs => ⟨(w3 s hs).1, (w3 s hs).2.1, (eM s (by omega)).trans (w3 s hs).2.2.1, (eG s (by omega)).trans (w3 s hs).2.2.2⟩) (fun m hm => (w4 m hm).imp (fun z => ⟨z.1, z.2.1, z.2.2.1, (eA m hm).trans z.2.2.2⟩) (fun z => ⟨z.1, (eA m hm).trans z.2⟩)) (rg_of b_M_someOf) (fun i hi => by rw [eW i (by omega)]; exact w5 i hi) (fun i hi => ob_ok (f := fun i => f_and (decA (τ 251) i) 255) (F := fun i => f_and (M_tape i) 255) (by omega) (by show f_and (M_tape i) 255 = f_and (decA (τ 251) i) 255; rw [eF i (by omega)]) oct_rng)).mono (fun r h' hp => ?_)
      obtain ⟨so, k1, rfl, rfl⟩ := hp
      exact ⟨τ, _, hΦ, fun _ _ => rfl, rfl, rfl, ⟨⟨rfl, rfl, rfl, rfl, rfl, rfl, rfl, rfl, rfl, gT_mk rfl e_M_stampMany b_M_stampMany, rfl, ⟨0, rfl, by decide, by decide⟩, ⟨_, rfl, b_M_place0⟩, ⟨_, rfl, b_M_length0⟩, ⟨_, rfl, b_M_fault⟩, ⟨_, rfl, b_M_number0⟩, ⟨_, rfl, b_M_open⟩, ⟨_, rfl, b_M_codeMany⟩, ⟨_, rfl, b_M_waiting⟩, ⟨_, rfl, b_M_saidMany⟩, gT_mk rfl e_M_clauses b_M_clauses, rfl, rfl, rfl, rfl, rfl, rfl, rfl, rfl, rfl, rfl, rfl, rfl, rfl, rfl, rfl, rfl, rfl, ⟨_, rfl, b_M_newMany⟩, ⟨_, rfl, b_M_rounds⟩, ⟨_, rfl, b_M_stampFrom⟩, ⟨_, rfl, b_M_stampTimes⟩, ⟨_, rfl, b_M_lines⟩, ⟨_, rfl, b_M_spot0⟩, ⟨_, rfl, b_M_pullAcross⟩, ⟨_, rfl, b_M_pullAlong⟩, ⟨_, rfl, b_M_stepsNow⟩, ⟨_, rfl, b_M_fallenNow⟩, rfl, rfl, rfl, rfl, rfl, gT_mk rfl e_M_isKept b_M_isKept, trivial⟩, ⟨rfl, rfl, b_M_mintAt⟩, ⟨rfl, rfl, b_M_mintOf⟩, ⟨rfl, rfl, b_M_wholeOf⟩, ⟨rfl, rfl, b_M_isWall⟩, ⟨rfl, rfl, b_M_tape⟩, ⟨rfl, rfl, of_rg k1⟩, trivial⟩⟩

def HX_mintC : List AC := hc_a5061c7b5a
theorem ch_3 {t : Nat} (h : (Nat.ble 100 t && (Nat.beq t 203 || (Nat.beq t 252 || Nat.beq t 253))) = false) : t ≠ 203 ∧ t ≠ 252 ∧ t ≠ 253 := ⟨fun z => (by subst z; cases h), fun z => (by subst z; cases h), fun z => (by subst z; cases h)⟩
set_option maxRecDepth 100000 in
theorem x_mintC {l : Launch} {m x y : Nat} (hm : m < 8) (hx : x ≤ 23) (hy : y ≤ 15) : conOkX (MetP l 2 yX11_mint cX11_mint 4 (some .boolean) 0 0) [nI m, nI x, nI y] HX_mintC HX_mintC (fun t => Nat.beq t 203 || (Nat.beq t 252 || Nat.beq t 253)) (fun _ => True) (fun τ τ' _ => ∃ FX FY : Nat → Int32, (∀ i, i < 8 → FX i = decA (τ 252) i) ∧ (∀ i, i < 8 → FY i = decA (τ 253) i) ∧ (∀ i, i < 8 → decA (τ' 252) i = upd FX m (nI x) i) ∧ (∀ i, i < 8 → decA (τ' 253) i = upd FY m (nI y) i) ∧ decA (τ' 203) 0 = f_or (decA (τ 203) 0) (f_shl 1 (nI m))) := by
  intro τ hΦ hP h hh
  have z := all2_cons hh
  clear hh
  obtain ⟨e0, h, rfl, g0, hh⟩ := z
  rcases e0 with ⟨t0, n0, f0⟩ | ⟨ci, fs⟩
  · exact g0.elim
  obtain ⟨rfl, gf⟩ := g0
  have z := all2_cons gf
  clear gf
  obtain ⟨v0, fs, rfl, q0, gf⟩ := z
  cases gT_r (τ := τ) (t := 0) (v := v0) rfl q0
  have z := all2_cons gf
  clear gf
  obtain ⟨v0, fs, rfl, q0, gf⟩ := z
  cases (q0 : v0 = .inr (some (.inl 1)))
  have z := all2_cons gf
  clear gf
  obtain ⟨v0, fs, rfl, q0, gf⟩ := z
  cases gT_r (τ := τ) (t := 1) (v := v0) rfl q0
  have z := all2_cons gf
  clear gf
  obtain ⟨v0, fs, rfl, q0, gf⟩ := z
  cases gT_r (τ := τ) (t := 2) (v := v0) rfl q0
  have z := all2_cons gf
  clear gf
  obtain ⟨v0, fs, rfl, q0, gf⟩ := z
  cases gT_r (τ := τ) (t := 3) (v := v0) rfl q0
  have z := all2_cons gf
  clear gf
  obtain ⟨v0, fs, rfl, q0, gf⟩ := z
  cases gT_r (τ := τ) (t := 4) (v := v0) rfl q0
  have z := all2_cons gf
  clear gf
  obtain ⟨v0, fs, rfl, q0, gf⟩ := z
  cases gT_r (τ := τ) (t := 5) (v := v0) rfl q0
  have z := all2_cons gf
  clear gf
  obtain ⟨v0, fs, rfl, q0, gf⟩ := z
  cases gT_r (τ := τ) (t := 6) (v := v0) rfl q0
  have z := all2_cons gf
  clear gf
  obtain ⟨v0, fs, rfl, q0, gf⟩ := z
  cases gT_r (τ := τ) (t := 7) (v := v0) rfl q0
  have z := all2_cons gf
  clear gf
  obtain ⟨v0, fs, rfl, q0, gf⟩ := z
  cases gT_r (τ := τ) (t := 8) (v := v0) rfl q0
  have z := all2_cons gf
  clear gf
  obtain ⟨v0, fs, rfl, q0, gf⟩ := z
  cases gT_r (τ := τ) (t := 9) (v := v0) rfl q0
  have z := all2_cons gf
  clear gf
  obtain ⟨v0, fs, rfl, q0, gf⟩ := z
  cases gT_r (τ := τ) (t := 10) (v := v0) rfl q0
  have z := all2_cons gf
  clear gf
  obtain ⟨v0, fs, rfl, q0, gf⟩ := z
  cases gT_r (τ := τ) (t := 11) (v := v0) rfl q0
  have z := all2_cons gf
  clear gf
  obtain ⟨v0, fs, rfl, q0, gf⟩ := z
  cases gT_r (τ := τ) (t := 12) (v := v0) rfl q0
  have z := all2_cons gf
  clear gf
  obtain ⟨v0, fs, rfl, q0, gf⟩ := z
  obtain ⟨HS_wasKept, rfl, e_HS_wasKept, b_HS_wasKept⟩ := gT_x (τ := τ) (t := 201) (v := v0) rfl q0
  cases fs with
  | cons _ _ => exact gf.elim
  | nil =>
    have z := all2_cons hh
    clear hh
    obtain ⟨e0, h, rfl, g0, hh⟩ := z
    rcases e0 with ⟨t0, n0, f0⟩ | ⟨ci, fs⟩
    · exact g0.elim
    obtain ⟨rfl, gf⟩ := g0
    have z := all2_cons gf
    clear gf
    obtain ⟨v0, fs, rfl, q0, gf⟩ := z
    cases (q0 : v0 = .inr (some (.inl 2)))
    have z := all2_cons gf
    clear gf
    obtain ⟨v0, fs, rfl, q0, gf⟩ := z
    cases (q0 : v0 = .inr (some (.inl 3)))
    have z := all2_cons gf
    clear gf
    obtain ⟨v0, fs, rfl, q0, gf⟩ := z
    cases (q0 : v0 = .inr (some (.inl 4)))
    have z := all2_cons gf
    clear gf
    obtain ⟨v0, fs, rfl, q0, gf⟩ := z
    cases (q0 : v0 = .inr (some (.inl 5)))
    have z := all2_cons gf
    clear gf
    obtain ⟨v0, fs, rfl, q0, gf⟩ := z
    cases (q0 : v0 = .inr (some (.inl 6)))
    have z := all2_cons gf
    clear gf
    obtain ⟨v0, fs, rfl, q0, gf⟩ := z
    obtain ⟨Rep_toldMints, rfl, e_Rep_toldMints, b_Rep_toldMints⟩ := gT_x (τ := τ) (t := 203) (v := v0) rfl q0
    have z := all2_cons gf
    clear gf
    obtain ⟨v0, fs, rfl, q0, gf⟩ := z
    obtain ⟨Rep_walls, rfl, b_Rep_walls⟩ := q0
    have z := all2_cons gf
    clear gf
    obtain ⟨v0, fs, rfl, q0, gf⟩ := z
    obtain ⟨Rep_stamps, rfl, e_Rep_stamps, b_Rep_stamps⟩ := gT_x (τ := τ) (t := 204) (v := v0) rfl q0
    cases fs with
    | cons _ _ => exact gf.elim
    | nil =>
      have z := all2_cons hh
      clear hh
      obtain ⟨e1, h, rfl, g1, hh⟩ := z
      rcases e1 with ⟨t1, n1, Rep_mintX⟩ | ⟨ci, fs⟩
      rotate_left
      · exact g1.elim
      obtain ⟨et, en, b_Rep_mintX⟩ := g1
      cases (et : t1 = 0)
      cases en
      have z := all2_cons hh
      clear hh
      obtain ⟨e1, h, rfl, g1, hh⟩ := z
      rcases e1 with ⟨t1, n1, Rep_mintY⟩ | ⟨ci, fs⟩
      rotate_left
      · exact g1.elim
      obtain ⟨et, en, b_Rep_mintY⟩ := g1
      cases (et : t1 = 0)
      cases en
      have z := all2_cons hh
      clear hh
      obtain ⟨e1, h, rfl, g1, hh⟩ := z
      rcases e1 with ⟨t1, n1, Rep_wall⟩ | ⟨ci, fs⟩
      rotate_left
      · exact g1.elim
      obtain ⟨et, en, b_Rep_wall⟩ := g1
      cases (et : t1 = 2)
      cases en
      have z := all2_cons hh
      clear hh
      obtain ⟨e1, h, rfl, g1, hh⟩ := z
      rcases e1 with ⟨t1, n1, Rep_mintOf⟩ | ⟨ci, fs⟩
      rotate_left
      · exact g1.elim
      obtain ⟨et, en, b_Rep_mintOf⟩ := g1
      cases (et : t1 = 0)
      cases en
      have z := all2_cons hh
      clear hh
      obtain ⟨e1, h, rfl, g1, hh⟩ := z
      rcases e1 with ⟨t1, n1, Rep_grainsOf⟩ | ⟨ci, fs⟩
      rotate_left
      · exact g1.elim
      obtain ⟨et, en, b_Rep_grainsOf⟩ := g1
      cases (et : t1 = 0)
      cases en
      cases h with
      | cons _ _ => exact hh.elim
      | nil =>
        obtain ⟨rX, eX⟩ := rg_x rfl b_Rep_mintX
        obtain ⟨rY, eY⟩ := rg_x rfl b_Rep_mintY
        refine (c_X11_mint hm hx hy).mono (fun r h' hp => ?_)
        obtain ⟨rfl, rfl⟩ := hp
        exact ⟨upL (upL (upL τ 252 (encA (upd Rep_mintX m (nI x)) 8)) 253 (encA (upd Rep_mintY m (nI y)) 8)) 203 [some (natOf (f_or Rep_toldMints (f_shl 1 (nI m))))], 1, hΦ, fun t ht => (upL_ne (ch_3 ht).1).trans ((upL_ne (ch_3 ht).2.2).trans (upL_ne (ch_3 ht).2.1)), rfl, ⟨Rep_mintX, Rep_mintY, eX, eY, fun i hi => encA_ok hi, fun i hi => encA_ok hi, (natOf_ok _).trans (by rw [e_Rep_toldMints])⟩, ⟨⟨rfl, rfl, rfl, rfl, rfl, rfl, rfl, rfl, rfl, rfl, rfl, rfl, rfl, rfl, rfl, gT_mk rfl e_HS_wasKept b_HS_wasKept, trivial⟩, ⟨rfl, rfl, rfl, rfl, rfl, rfl, gT_mk (t := 203) rfl (natOf_ok _).symm ⟨i32lo _, i32hi _⟩, ⟨_, rfl, b_Rep_walls⟩, gT_mk rfl e_Rep_stamps b_Rep_stamps, trivial⟩, ⟨rfl, rfl, of_x rfl (fun i _ => ⟨i32lo _, i32hi _⟩) (fun i hi => (encA_ok hi).symm)⟩, ⟨rfl, rfl, of_x rfl (fun i _ => ⟨i32lo _, i32hi _⟩) (fun i hi => (encA_ok hi).symm)⟩, ⟨rfl, rfl, b_Rep_wall⟩, ⟨rfl, rfl, b_Rep_mintOf⟩, ⟨rfl, rfl, b_Rep_grainsOf⟩, trivial⟩⟩

def HX_mintR : List AC := hc_6098d72d6a
theorem rgx_upd {n : Nat} {lo hi : Int} {f : Nat → Int32} {k : Nat} {v : Int32} (h : ∀ i, i < n → lo ≤ (f i).toInt ∧ (f i).toInt ≤ hi) (hv : lo ≤ v.toInt ∧ v.toInt ≤ hi) : ∀ i, i < n → lo ≤ (upd f k v i).toInt ∧ (upd f k v i).toInt ≤ hi := fun i hi => by
  unfold upd
  split
  · exact hv
  · exact h i hi
set_option maxRecDepth 100000 in
theorem x_mintR {l : Launch} {m x y : Nat} (hm : m < 8) (hx : x ≤ 23) (hy : y ≤ 15) : conOkX (MetP l 1 yX12_mint cX12_mint 4 (some .boolean) 0 0) [nI m, nI x, nI y] HX_mintR HX_mintR (fun t => Nat.beq t 254) (fun _ => True) (fun τ τ' _ => ∃ FA : Nat → Int32, (∀ i, i < 8 → FA i = decA (τ 254) i) ∧ (∀ i, i < 8 → decA (τ' 254) i = upd FA m (nI (24 * y + x)) i)) := by
  intro τ hΦ hP h hh
  have z := all2_cons hh
  clear hh
  obtain ⟨e0, h, rfl, g0, hh⟩ := z
  rcases e0 with ⟨t0, n0, f0⟩ | ⟨ci, fs⟩
  · exact g0.elim
  obtain ⟨rfl, gf⟩ := g0
  have z := all2_cons gf
  clear gf
  obtain ⟨v0, fs, rfl, q0, gf⟩ := z
  cases gT_r (τ := τ) (t := 0) (v := v0) rfl q0
  have z := all2_cons gf
  clear gf
  obtain ⟨v0, fs, rfl, q0, gf⟩ := z
  cases gT_r (τ := τ) (t := 1) (v := v0) rfl q0
  have z := all2_cons gf
  clear gf
  obtain ⟨v0, fs, rfl, q0, gf⟩ := z
  cases gT_r (τ := τ) (t := 2) (v := v0) rfl q0
  have z := all2_cons gf
  clear gf
  obtain ⟨v0, fs, rfl, q0, gf⟩ := z
  cases (q0 : v0 = .inr (some (.inl 1)))
  have z := all2_cons gf
  clear gf
  obtain ⟨v0, fs, rfl, q0, gf⟩ := z
  cases gT_r (τ := τ) (t := 3) (v := v0) rfl q0
  have z := all2_cons gf
  clear gf
  obtain ⟨v0, fs, rfl, q0, gf⟩ := z
  cases gT_r (τ := τ) (t := 4) (v := v0) rfl q0
  have z := all2_cons gf
  clear gf
  obtain ⟨v0, fs, rfl, q0, gf⟩ := z
  cases gT_r (τ := τ) (t := 5) (v := v0) rfl q0
  have z := all2_cons gf
  clear gf
  obtain ⟨v0, fs, rfl, q0, gf⟩ := z
  cases gT_r (τ := τ) (t := 6) (v := v0) rfl q0
  have z := all2_cons gf
  clear gf
  obtain ⟨v0, fs, rfl, q0, gf⟩ := z
  obtain ⟨M_stampMany, rfl, e_M_stampMany, b_M_stampMany⟩ := gT_x (τ := τ) (t := 205) (v := v0) rfl q0
  have z := all2_cons gf
  clear gf
  obtain ⟨v0, fs, rfl, q0, gf⟩ := z
  cases gT_r (τ := τ) (t := 7) (v := v0) rfl q0
  have z := all2_cons gf
  clear gf
  obtain ⟨v0, fs, rfl, q0, gf⟩ := z
  obtain ⟨M_taped, rfl, e_M_taped, b_M_taped⟩ := gT_x (τ := τ) (t := 202) (v := v0) rfl q0
  have z := all2_cons gf
  clear gf
  obtain ⟨v0, fs, rfl, q0, gf⟩ := z
  obtain ⟨M_place0, rfl, b_M_place0⟩ := q0
  have z := all2_cons gf
  clear gf
  obtain ⟨v0, fs, rfl, q0, gf⟩ := z
  obtain ⟨M_length0, rfl, b_M_length0⟩ := q0
  have z := all2_cons gf
  clear gf
  obtain ⟨v0, fs, rfl, q0, gf⟩ := z
  obtain ⟨M_fault, rfl, b_M_fault⟩ := q0
  have z := all2_cons gf
  clear gf
  obtain ⟨v0, fs, rfl, q0, gf⟩ := z
  obtain ⟨M_number0, rfl, b_M_number0⟩ := q0
  have z := all2_cons gf
  clear gf
  obtain ⟨v0, fs, rfl, q0, gf⟩ := z
  obtain ⟨M_open, rfl, b_M_open⟩ := q0
  have z := all2_cons gf
  clear gf
  obtain ⟨v0, fs, rfl, q0, gf⟩ := z
  obtain ⟨M_codeMany, rfl, b_M_codeMany⟩ := q0
  have z := all2_cons gf
  clear gf
  obtain ⟨v0, fs, rfl, q0, gf⟩ := z
  obtain ⟨M_waiting, rfl, b_M_waiting⟩ := q0
  have z := all2_cons gf
  clear gf
  obtain ⟨v0, fs, rfl, q0, gf⟩ := z
  obtain ⟨M_saidMany, rfl, b_M_saidMany⟩ := q0
  have z := all2_cons gf
  clear gf
  obtain ⟨v0, fs, rfl, q0, gf⟩ := z
  obtain ⟨M_clauses, rfl, e_M_clauses, b_M_clauses⟩ := gT_x (τ := τ) (t := 200) (v := v0) rfl q0
  have z := all2_cons gf
  clear gf
  obtain ⟨v0, fs, rfl, q0, gf⟩ := z
  cases gT_r (τ := τ) (t := 8) (v := v0) rfl q0
  have z := all2_cons gf
  clear gf
  obtain ⟨v0, fs, rfl, q0, gf⟩ := z
  cases gT_r (τ := τ) (t := 9) (v := v0) rfl q0
  have z := all2_cons gf
  clear gf
  obtain ⟨v0, fs, rfl, q0, gf⟩ := z
  cases gT_r (τ := τ) (t := 10) (v := v0) rfl q0
  have z := all2_cons gf
  clear gf
  obtain ⟨v0, fs, rfl, q0, gf⟩ := z
  cases gT_r (τ := τ) (t := 11) (v := v0) rfl q0
  have z := all2_cons gf
  clear gf
  obtain ⟨v0, fs, rfl, q0, gf⟩ := z
  cases gT_r (τ := τ) (t := 12) (v := v0) rfl q0
  have z := all2_cons gf
  clear gf
  obtain ⟨v0, fs, rfl, q0, gf⟩ := z
  cases gT_r (τ := τ) (t := 13) (v := v0) rfl q0
  have z := all2_cons gf
  clear gf
  obtain ⟨v0, fs, rfl, q0, gf⟩ := z
  cases gT_r (τ := τ) (t := 14) (v := v0) rfl q0
  have z := all2_cons gf
  clear gf
  obtain ⟨v0, fs, rfl, q0, gf⟩ := z
  cases gT_r (τ := τ) (t := 15) (v := v0) rfl q0
  have z := all2_cons gf
  clear gf
  obtain ⟨v0, fs, rfl, q0, gf⟩ := z
  cases gT_r (τ := τ) (t := 16) (v := v0) rfl q0
  have z := all2_cons gf
  clear gf
  obtain ⟨v0, fs, rfl, q0, gf⟩ := z
  cases gT_r (τ := τ) (t := 17) (v := v0) rfl q0
  have z := all2_cons gf
  clear gf
  obtain ⟨v0, fs, rfl, q0, gf⟩ := z
  cases gT_r (τ := τ) (t := 18) (v := v0) rfl q0
  have z := all2_cons gf
  clear gf
  obtain ⟨v0, fs, rfl, q0, gf⟩ := z
  cases gT_r (τ := τ) (t := 19) (v := v0) rfl q0
  have z := all2_cons gf
  clear gf
  obtain ⟨v0, fs, rfl, q0, gf⟩ := z
  cases gT_r (τ := τ) (t := 20) (v := v0) rfl q0
  have z := all2_cons gf
  clear gf
  obtain ⟨v0, fs, rfl, q0, gf⟩ := z
  cases gT_r (τ := τ) (t := 21) (v := v0) rfl q0
  have z := all2_cons gf
  clear gf
  obtain ⟨v0, fs, rfl, q0, gf⟩ := z
  cases gT_r (τ := τ) (t := 22) (v := v0) rfl q0
  have z := all2_cons gf
  clear gf
  obtain ⟨v0, fs, rfl, q0, gf⟩ := z
  cases gT_r (τ := τ) (t := 23) (v := v0) rfl q0
  have z := all2_cons gf
  clear gf
  obtain ⟨v0, fs, rfl, q0, gf⟩ := z
  cases gT_r (τ := τ) (t := 24) (v := v0) rfl q0
  have z := all2_cons gf
  clear gf
  obtain ⟨v0, fs, rfl, q0, gf⟩ := z
  obtain ⟨M_newMany, rfl, b_M_newMany⟩ := q0
  have z := all2_cons gf
  clear gf
  obtain ⟨v0, fs, rfl, q0, gf⟩ := z
  obtain ⟨M_rounds, rfl, b_M_rounds⟩ := q0
  have z := all2_cons gf
  clear gf
  obtain ⟨v0, fs, rfl, q0, gf⟩ := z
  obtain ⟨M_stampFrom, rfl, b_M_stampFrom⟩ := q0
  have z := all2_cons gf
  clear gf
  obtain ⟨v0, fs, rfl, q0, gf⟩ := z
  obtain ⟨M_stampTimes, rfl, b_M_stampTimes⟩ := q0
  have z := all2_cons gf
  clear gf
  obtain ⟨v0, fs, rfl, q0, gf⟩ := z
  obtain ⟨M_lines, rfl, b_M_lines⟩ := q0
  have z := all2_cons gf
  clear gf
  obtain ⟨v0, fs, rfl, q0, gf⟩ := z
  obtain ⟨M_spot0, rfl, b_M_spot0⟩ := q0
  have z := all2_cons gf
  clear gf
  obtain ⟨v0, fs, rfl, q0, gf⟩ := z
  obtain ⟨M_pullAcross, rfl, b_M_pullAcross⟩ := q0
  have z := all2_cons gf
  clear gf
  obtain ⟨v0, fs, rfl, q0, gf⟩ := z
  obtain ⟨M_pullAlong, rfl, b_M_pullAlong⟩ := q0
  have z := all2_cons gf
  clear gf
  obtain ⟨v0, fs, rfl, q0, gf⟩ := z
  obtain ⟨M_stepsNow, rfl, b_M_stepsNow⟩ := q0
  have z := all2_cons gf
  clear gf
  obtain ⟨v0, fs, rfl, q0, gf⟩ := z
  obtain ⟨M_fallenNow, rfl, b_M_fallenNow⟩ := q0
  have z := all2_cons gf
  clear gf
  obtain ⟨v0, fs, rfl, q0, gf⟩ := z
  cases gT_r (τ := τ) (t := 25) (v := v0) rfl q0
  have z := all2_cons gf
  clear gf
  obtain ⟨v0, fs, rfl, q0, gf⟩ := z
  cases gT_r (τ := τ) (t := 26) (v := v0) rfl q0
  have z := all2_cons gf
  clear gf
  obtain ⟨v0, fs, rfl, q0, gf⟩ := z
  cases gT_r (τ := τ) (t := 27) (v := v0) rfl q0
  have z := all2_cons gf
  clear gf
  obtain ⟨v0, fs, rfl, q0, gf⟩ := z
  cases gT_r (τ := τ) (t := 28) (v := v0) rfl q0
  have z := all2_cons gf
  clear gf
  obtain ⟨v0, fs, rfl, q0, gf⟩ := z
  cases gT_r (τ := τ) (t := 29) (v := v0) rfl q0
  have z := all2_cons gf
  clear gf
  obtain ⟨v0, fs, rfl, q0, gf⟩ := z
  obtain ⟨M_isKept, rfl, e_M_isKept, b_M_isKept⟩ := gT_x (τ := τ) (t := 201) (v := v0) rfl q0
  cases fs with
  | cons _ _ => exact gf.elim
  | nil =>
    have z := all2_cons hh
    clear hh
    obtain ⟨e1, h, rfl, g1, hh⟩ := z
    rcases e1 with ⟨t1, n1, M_mintAt⟩ | ⟨ci, fs⟩
    rotate_left
    · exact g1.elim
    obtain ⟨et, en, b_M_mintAt⟩ := g1
    cases (et : t1 = 0)
    cases en
    cases h with
    | cons _ _ => exact hh.elim
    | nil =>
      obtain ⟨rA, eA⟩ := rg_x rfl b_M_mintAt
      refine (c_X12_mint hm hx hy).mono (fun r h' hp => ?_)
      obtain ⟨rfl, rfl⟩ := hp
      exact ⟨upL τ 254 (encA (upd M_mintAt m (nI (24 * y + x))) 8), 1, hΦ, fun t ht => upL_ne (ch_ne ht rfl), rfl, ⟨M_mintAt, eA, fun i hi => encA_ok hi⟩, ⟨⟨rfl, rfl, rfl, rfl, rfl, rfl, rfl, rfl, rfl, gT_mk rfl e_M_stampMany b_M_stampMany, rfl, gT_mk rfl e_M_taped b_M_taped, ⟨_, rfl, b_M_place0⟩, ⟨_, rfl, b_M_length0⟩, ⟨_, rfl, b_M_fault⟩, ⟨_, rfl, b_M_number0⟩, ⟨_, rfl, b_M_open⟩, ⟨_, rfl, b_M_codeMany⟩, ⟨_, rfl, b_M_waiting⟩, ⟨_, rfl, b_M_saidMany⟩, gT_mk rfl e_M_clauses b_M_clauses, rfl, rfl, rfl, rfl, rfl, rfl, rfl, rfl, rfl, rfl, rfl, rfl, rfl, rfl, rfl, rfl, rfl, ⟨_, rfl, b_M_newMany⟩, ⟨_, rfl, b_M_rounds⟩, ⟨_, rfl, b_M_stampFrom⟩, ⟨_, rfl, b_M_stampTimes⟩, ⟨_, rfl, b_M_lines⟩, ⟨_, rfl, b_M_spot0⟩, ⟨_, rfl, b_M_pullAcross⟩, ⟨_, rfl, b_M_pullAlong⟩, ⟨_, rfl, b_M_stepsNow⟩, ⟨_, rfl, b_M_fallenNow⟩, rfl, rfl, rfl, rfl, rfl, gT_mk rfl e_M_isKept b_M_isKept, trivial⟩, ⟨rfl, rfl, of_x rfl (rgx_upd rA (by rw [nI_toInt (by omega)]; omega)) (fun i hi => (encA_ok hi).symm)⟩, trivial⟩⟩

