def hc_3ae6b13644 : List AC := [.inr (10, [.inr (.inr (some (.inr 0))), .inr (.inr (some (.inl 1))), .inr (.inr (some (.inr 1))), .inr (.inr (some (.inr 2))), .inr (.inr (some (.inr 3))), .inr (.inr (some (.inr 4))), .inr (.inr (some (.inr 5))), .inr (.inr (some (.inr 6))), .inr (.inr (some (.inr 7))), .inr (.inr (some (.inr 8))), .inr (.inr (some (.inr 9))), .inr (.inr (some (.inr 10))), .inr (.inr (some (.inr 11))), .inr (.inr (some (.inr 12))), .inr (.inr (some (.inr 201)))]), .inr (6, [.inr (.inr (some (.inl 2))), .inr (.inr (some (.inl 3))), .inr (.inr (some (.inl 4))), .inr (.inr (some (.inl 5))), .inr (.inr (some (.inl 6))), .inr (.inr (some (.inr 203))), .inl (-2147483648, 2147483647), .inl (0, 48)]), .inl (1008, 8, -2147483648, 2147483647), .inl (1012, 8, -2147483648, 2147483647), .inl (2, 384, 0, 1), .inl (0, 48, -2147483648, 2147483647), .inl (0, 48, -2147483648, 2147483647)]
def P_X11_mint_1 : List Nd := [(1, [], [1, 1]), (0, [0], [2]), (0, [7], [3]), (31, [], [15, 5, 0, 0, 3]), (10, [], [15, 5, 0]), (1, [], [6, 2]), (0, [0], [7]), (0, [23], [8]), (31, [], [15, 10, 1, 0, 3]), (10, [], [15, 10, 0]), (1, [], [11, 3]), (0, [0], [12]), (0, [15], [13]), (31, [], [15, 17, 2, 0, 3]), (10, [], [15, 17, 0]), (0, [0], [16]), (25, [], []), (2, [], [18, 0]), (18, [], [19, 1, 10]), (1, [], [20, 1]), (1, [], [21, 2]), (1, [], [22, 3]), (26, [], [23, 0, 7, 4, 1, 2, 3, 4, 5, 6]), (0, [1], [24]), (25, [], [])]
def C_X11_mint_1 : Con := ([.inr (.inr (some (.inl 0))), .inl (-2147483648, -1), .inl (-2147483648, 2147483647), .inl (-2147483648, 2147483647)], hc_3ae6b13644, [(some (0, 0), hc_3ae6b13644)])
set_option maxRecDepth 100000 in
theorem s_X11_mint_1 {l : Launch} : conOk (MetP l 2 yX11_mint cX11_mint 4 (some .boolean) 0 0) C_X11_mint_1 := by
  intro τ hΦ as h ha hh
  refine m_X11_mint  (by rw [all2_len ha]; exact Nat.le_of_ble_eq_true rfl) ?_
  · exact run0 (τ := τ) (P := P_X11_mint_1) (CE := []) (CS := [C_void]) (Ms := [MetP l 1 yX7_tellMint cX7_tellMint 4 none 0 0]) (GS := [(([topA, .inl (0, 2147483647), .inl (-2147483648, 7)], [], some (0, 1), []), 0, 0, 7), (([topA, .inl (0, 2147483647), .inl (-2147483648, 23)], [], some (0, 1), []), 0, 0, 23), (([topA, .inl (0, 2147483647), .inl (-2147483648, 15)], [], some (0, 1), []), 0, 0, 15)]) (Mg := [MetP l 0 yX11_within cX11_within 3 (some .boolean) 0 0, MetP l 0 yX11_within cX11_within 3 (some .boolean) 0 0, MetP l 0 yX11_within cX11_within 3 (some .boolean) 0 0]) (T := ((C_X11_mint_1.1.map some ++ List.replicate (4 - 4) none, [], C_X11_mint_1.2.1) : Tg)) (sl := [(0, 1), (0, 2), (0, 3)]) (q := 27) (x := 0) (L := enL as 4) (st := []) (h := h) hΦ (fun j C e => match j, e with | 0, e => (by cases e; exact s_void) | _ + 1, e => (by cases e)) (fun j g e => match j, e with | 0, e => (by cases e; exact gd_within (0) (7)) | 1, e => (by cases e; exact gd_within (0) (23)) | 2, e => (by cases e; exact gd_within (0) (15)) | _ + 3, e => (by cases e)) (RS := C_X11_mint_1.2.2) (Rv := (fun r h' => ∃ q, q ∈ C_X11_mint_1.2.2 ∧ gR q.1 r ∧ all2 (gC ρ0 τ) q.2 h')) (GR := none) (M := (0, [])) (fun r h' q hq h1 h2 _ => ⟨q, hq, h1, h2⟩) ⟨door ha, trivial, hh⟩ (by decide +kernel)

def P_X11_mint_2 : List Nd := [(1, [], [1, 1]), (0, [0], [2]), (0, [7], [3]), (31, [], [15, 5, 0, 0, 3]), (10, [], [15, 5, 0]), (1, [], [6, 2]), (0, [0], [7]), (0, [23], [8]), (31, [], [15, 10, 1, 0, 3]), (10, [], [15, 10, 0]), (1, [], [11, 3]), (0, [0], [12]), (0, [15], [13]), (31, [], [15, 17, 2, 0, 3]), (10, [], [15, 17, 0]), (0, [0], [16]), (25, [], []), (2, [], [18, 0]), (18, [], [19, 1, 10]), (1, [], [20, 1]), (1, [], [21, 2]), (1, [], [22, 3]), (26, [], [23, 0, 7, 4, 1, 2, 3, 4, 5, 6]), (0, [1], [24]), (25, [], [])]
def C_X11_mint_2 : Con := ([.inr (.inr (some (.inl 0))), .inl (8, 2147483647), .inl (-2147483648, 2147483647), .inl (-2147483648, 2147483647)], hc_3ae6b13644, [(some (0, 0), hc_3ae6b13644)])
set_option maxRecDepth 100000 in
theorem s_X11_mint_2 {l : Launch} : conOk (MetP l 2 yX11_mint cX11_mint 4 (some .boolean) 0 0) C_X11_mint_2 := by
  intro τ hΦ as h ha hh
  refine m_X11_mint  (by rw [all2_len ha]; exact Nat.le_of_ble_eq_true rfl) ?_
  · exact run0 (τ := τ) (P := P_X11_mint_2) (CE := []) (CS := [C_void]) (Ms := [MetP l 1 yX7_tellMint cX7_tellMint 4 none 0 0]) (GS := [(([topA, .inl (0, 2147483647), .inl (-2147483648, 7)], [], some (0, 1), []), 0, 0, 7), (([topA, .inl (0, 2147483647), .inl (-2147483648, 23)], [], some (0, 1), []), 0, 0, 23), (([topA, .inl (0, 2147483647), .inl (-2147483648, 15)], [], some (0, 1), []), 0, 0, 15)]) (Mg := [MetP l 0 yX11_within cX11_within 3 (some .boolean) 0 0, MetP l 0 yX11_within cX11_within 3 (some .boolean) 0 0, MetP l 0 yX11_within cX11_within 3 (some .boolean) 0 0]) (T := ((C_X11_mint_2.1.map some ++ List.replicate (4 - 4) none, [], C_X11_mint_2.2.1) : Tg)) (sl := [(0, 1), (0, 2), (0, 3)]) (q := 27) (x := 0) (L := enL as 4) (st := []) (h := h) hΦ (fun j C e => match j, e with | 0, e => (by cases e; exact s_void) | _ + 1, e => (by cases e)) (fun j g e => match j, e with | 0, e => (by cases e; exact gd_within (0) (7)) | 1, e => (by cases e; exact gd_within (0) (23)) | 2, e => (by cases e; exact gd_within (0) (15)) | _ + 3, e => (by cases e)) (RS := C_X11_mint_2.2.2) (Rv := (fun r h' => ∃ q, q ∈ C_X11_mint_2.2.2 ∧ gR q.1 r ∧ all2 (gC ρ0 τ) q.2 h')) (GR := none) (M := (0, [])) (fun r h' q hq h1 h2 _ => ⟨q, hq, h1, h2⟩) ⟨door ha, trivial, hh⟩ (by decide +kernel)

def P_X11_mint_3 : List Nd := [(1, [], [1, 1]), (0, [0], [2]), (0, [7], [3]), (31, [], [15, 5, 0, 0, 3]), (10, [], [15, 5, 0]), (1, [], [6, 2]), (0, [0], [7]), (0, [23], [8]), (31, [], [15, 10, 1, 0, 3]), (10, [], [15, 10, 0]), (1, [], [11, 3]), (0, [0], [12]), (0, [15], [13]), (31, [], [15, 17, 2, 0, 3]), (10, [], [15, 17, 0]), (0, [0], [16]), (25, [], []), (2, [], [18, 0]), (18, [], [19, 1, 10]), (1, [], [20, 1]), (1, [], [21, 2]), (1, [], [22, 3]), (26, [], [23, 0, 7, 4, 1, 2, 3, 4, 5, 6]), (0, [1], [24]), (25, [], [])]
def C_X11_mint_3 : Con := ([.inr (.inr (some (.inl 0))), .inl (-2147483648, 2147483647), .inl (-2147483648, -1), .inl (-2147483648, 2147483647)], hc_3ae6b13644, [(some (0, 0), hc_3ae6b13644)])
set_option maxRecDepth 100000 in
theorem s_X11_mint_3 {l : Launch} : conOk (MetP l 2 yX11_mint cX11_mint 4 (some .boolean) 0 0) C_X11_mint_3 := by
  intro τ hΦ as h ha hh
  refine m_X11_mint  (by rw [all2_len ha]; exact Nat.le_of_ble_eq_true rfl) ?_
  · exact run0 (τ := τ) (P := P_X11_mint_3) (CE := []) (CS := [C_void]) (Ms := [MetP l 1 yX7_tellMint cX7_tellMint 4 none 0 0]) (GS := [(([topA, .inl (0, 2147483647), .inl (-2147483648, 7)], [], some (0, 1), []), 0, 0, 7), (([topA, .inl (0, 2147483647), .inl (-2147483648, 23)], [], some (0, 1), []), 0, 0, 23), (([topA, .inl (0, 2147483647), .inl (-2147483648, 15)], [], some (0, 1), []), 0, 0, 15)]) (Mg := [MetP l 0 yX11_within cX11_within 3 (some .boolean) 0 0, MetP l 0 yX11_within cX11_within 3 (some .boolean) 0 0, MetP l 0 yX11_within cX11_within 3 (some .boolean) 0 0]) (T := ((C_X11_mint_3.1.map some ++ List.replicate (4 - 4) none, [], C_X11_mint_3.2.1) : Tg)) (sl := [(0, 1), (0, 2), (0, 3)]) (q := 27) (x := 0) (L := enL as 4) (st := []) (h := h) hΦ (fun j C e => match j, e with | 0, e => (by cases e; exact s_void) | _ + 1, e => (by cases e)) (fun j g e => match j, e with | 0, e => (by cases e; exact gd_within (0) (7)) | 1, e => (by cases e; exact gd_within (0) (23)) | 2, e => (by cases e; exact gd_within (0) (15)) | _ + 3, e => (by cases e)) (RS := C_X11_mint_3.2.2) (Rv := (fun r h' => ∃ q, q ∈ C_X11_mint_3.2.2 ∧ gR q.1 r ∧ all2 (gC ρ0 τ) q.2 h')) (GR := none) (M := (0, [])) (fun r h' q hq h1 h2 _ => ⟨q, hq, h1, h2⟩) ⟨door ha, trivial, hh⟩ (by decide +kernel)

def P_X11_mint_4 : List Nd := [(1, [], [1, 1]), (0, [0], [2]), (0, [7], [3]), (31, [], [15, 5, 0, 0, 3]), (10, [], [15, 5, 0]), (1, [], [6, 2]), (0, [0], [7]), (0, [23], [8]), (31, [], [15, 10, 1, 0, 3]), (10, [], [15, 10, 0]), (1, [], [11, 3]), (0, [0], [12]), (0, [15], [13]), (31, [], [15, 17, 2, 0, 3]), (10, [], [15, 17, 0]), (0, [0], [16]), (25, [], []), (2, [], [18, 0]), (18, [], [19, 1, 10]), (1, [], [20, 1]), (1, [], [21, 2]), (1, [], [22, 3]), (26, [], [23, 0, 7, 4, 1, 2, 3, 4, 5, 6]), (0, [1], [24]), (25, [], [])]
def C_X11_mint_4 : Con := ([.inr (.inr (some (.inl 0))), .inl (-2147483648, 2147483647), .inl (24, 2147483647), .inl (-2147483648, 2147483647)], hc_3ae6b13644, [(some (0, 0), hc_3ae6b13644)])
set_option maxRecDepth 100000 in
theorem s_X11_mint_4 {l : Launch} : conOk (MetP l 2 yX11_mint cX11_mint 4 (some .boolean) 0 0) C_X11_mint_4 := by
  intro τ hΦ as h ha hh
  refine m_X11_mint  (by rw [all2_len ha]; exact Nat.le_of_ble_eq_true rfl) ?_
  · exact run0 (τ := τ) (P := P_X11_mint_4) (CE := []) (CS := [C_void]) (Ms := [MetP l 1 yX7_tellMint cX7_tellMint 4 none 0 0]) (GS := [(([topA, .inl (0, 2147483647), .inl (-2147483648, 7)], [], some (0, 1), []), 0, 0, 7), (([topA, .inl (0, 2147483647), .inl (-2147483648, 23)], [], some (0, 1), []), 0, 0, 23), (([topA, .inl (0, 2147483647), .inl (-2147483648, 15)], [], some (0, 1), []), 0, 0, 15)]) (Mg := [MetP l 0 yX11_within cX11_within 3 (some .boolean) 0 0, MetP l 0 yX11_within cX11_within 3 (some .boolean) 0 0, MetP l 0 yX11_within cX11_within 3 (some .boolean) 0 0]) (T := ((C_X11_mint_4.1.map some ++ List.replicate (4 - 4) none, [], C_X11_mint_4.2.1) : Tg)) (sl := [(0, 1), (0, 2), (0, 3)]) (q := 27) (x := 0) (L := enL as 4) (st := []) (h := h) hΦ (fun j C e => match j, e with | 0, e => (by cases e; exact s_void) | _ + 1, e => (by cases e)) (fun j g e => match j, e with | 0, e => (by cases e; exact gd_within (0) (7)) | 1, e => (by cases e; exact gd_within (0) (23)) | 2, e => (by cases e; exact gd_within (0) (15)) | _ + 3, e => (by cases e)) (RS := C_X11_mint_4.2.2) (Rv := (fun r h' => ∃ q, q ∈ C_X11_mint_4.2.2 ∧ gR q.1 r ∧ all2 (gC ρ0 τ) q.2 h')) (GR := none) (M := (0, [])) (fun r h' q hq h1 h2 _ => ⟨q, hq, h1, h2⟩) ⟨door ha, trivial, hh⟩ (by decide +kernel)

def P_X11_mint_5 : List Nd := [(1, [], [1, 1]), (0, [0], [2]), (0, [7], [3]), (31, [], [15, 5, 0, 0, 3]), (10, [], [15, 5, 0]), (1, [], [6, 2]), (0, [0], [7]), (0, [23], [8]), (31, [], [15, 10, 1, 0, 3]), (10, [], [15, 10, 0]), (1, [], [11, 3]), (0, [0], [12]), (0, [15], [13]), (31, [], [15, 17, 2, 0, 3]), (10, [], [15, 17, 0]), (0, [0], [16]), (25, [], []), (2, [], [18, 0]), (18, [], [19, 1, 10]), (1, [], [20, 1]), (1, [], [21, 2]), (1, [], [22, 3]), (26, [], [23, 0, 7, 4, 1, 2, 3, 4, 5, 6]), (0, [1], [24]), (25, [], [])]
def C_X11_mint_5 : Con := ([.inr (.inr (some (.inl 0))), .inl (-2147483648, 2147483647), .inl (-2147483648, 2147483647), .inl (-2147483648, -1)], hc_3ae6b13644, [(some (0, 0), hc_3ae6b13644)])
set_option maxRecDepth 100000 in
theorem s_X11_mint_5 {l : Launch} : conOk (MetP l 2 yX11_mint cX11_mint 4 (some .boolean) 0 0) C_X11_mint_5 := by
  intro τ hΦ as h ha hh
  refine m_X11_mint  (by rw [all2_len ha]; exact Nat.le_of_ble_eq_true rfl) ?_
  · exact run0 (τ := τ) (P := P_X11_mint_5) (CE := []) (CS := [C_void]) (Ms := [MetP l 1 yX7_tellMint cX7_tellMint 4 none 0 0]) (GS := [(([topA, .inl (0, 2147483647), .inl (-2147483648, 7)], [], some (0, 1), []), 0, 0, 7), (([topA, .inl (0, 2147483647), .inl (-2147483648, 23)], [], some (0, 1), []), 0, 0, 23), (([topA, .inl (0, 2147483647), .inl (-2147483648, 15)], [], some (0, 1), []), 0, 0, 15)]) (Mg := [MetP l 0 yX11_within cX11_within 3 (some .boolean) 0 0, MetP l 0 yX11_within cX11_within 3 (some .boolean) 0 0, MetP l 0 yX11_within cX11_within 3 (some .boolean) 0 0]) (T := ((C_X11_mint_5.1.map some ++ List.replicate (4 - 4) none, [], C_X11_mint_5.2.1) : Tg)) (sl := [(0, 1), (0, 2), (0, 3)]) (q := 27) (x := 0) (L := enL as 4) (st := []) (h := h) hΦ (fun j C e => match j, e with | 0, e => (by cases e; exact s_void) | _ + 1, e => (by cases e)) (fun j g e => match j, e with | 0, e => (by cases e; exact gd_within (0) (7)) | 1, e => (by cases e; exact gd_within (0) (23)) | 2, e => (by cases e; exact gd_within (0) (15)) | _ + 3, e => (by cases e)) (RS := C_X11_mint_5.2.2) (Rv := (fun r h' => ∃ q, q ∈ C_X11_mint_5.2.2 ∧ gR q.1 r ∧ all2 (gC ρ0 τ) q.2 h')) (GR := none) (M := (0, [])) (fun r h' q hq h1 h2 _ => ⟨q, hq, h1, h2⟩) ⟨door ha, trivial, hh⟩ (by decide +kernel)

def P_X11_mint_6 : List Nd := [(1, [], [1, 1]), (0, [0], [2]), (0, [7], [3]), (31, [], [15, 5, 0, 0, 3]), (10, [], [15, 5, 0]), (1, [], [6, 2]), (0, [0], [7]), (0, [23], [8]), (31, [], [15, 10, 1, 0, 3]), (10, [], [15, 10, 0]), (1, [], [11, 3]), (0, [0], [12]), (0, [15], [13]), (31, [], [15, 17, 2, 0, 3]), (10, [], [15, 17, 0]), (0, [0], [16]), (25, [], []), (2, [], [18, 0]), (18, [], [19, 1, 10]), (1, [], [20, 1]), (1, [], [21, 2]), (1, [], [22, 3]), (26, [], [23, 0, 7, 4, 1, 2, 3, 4, 5, 6]), (0, [1], [24]), (25, [], [])]
def C_X11_mint_6 : Con := ([.inr (.inr (some (.inl 0))), .inl (-2147483648, 2147483647), .inl (-2147483648, 2147483647), .inl (16, 2147483647)], hc_3ae6b13644, [(some (0, 0), hc_3ae6b13644)])
set_option maxRecDepth 100000 in
theorem s_X11_mint_6 {l : Launch} : conOk (MetP l 2 yX11_mint cX11_mint 4 (some .boolean) 0 0) C_X11_mint_6 := by
  intro τ hΦ as h ha hh
  refine m_X11_mint  (by rw [all2_len ha]; exact Nat.le_of_ble_eq_true rfl) ?_
  · exact run0 (τ := τ) (P := P_X11_mint_6) (CE := []) (CS := [C_void]) (Ms := [MetP l 1 yX7_tellMint cX7_tellMint 4 none 0 0]) (GS := [(([topA, .inl (0, 2147483647), .inl (-2147483648, 7)], [], some (0, 1), []), 0, 0, 7), (([topA, .inl (0, 2147483647), .inl (-2147483648, 23)], [], some (0, 1), []), 0, 0, 23), (([topA, .inl (0, 2147483647), .inl (-2147483648, 15)], [], some (0, 1), []), 0, 0, 15)]) (Mg := [MetP l 0 yX11_within cX11_within 3 (some .boolean) 0 0, MetP l 0 yX11_within cX11_within 3 (some .boolean) 0 0, MetP l 0 yX11_within cX11_within 3 (some .boolean) 0 0]) (T := ((C_X11_mint_6.1.map some ++ List.replicate (4 - 4) none, [], C_X11_mint_6.2.1) : Tg)) (sl := [(0, 1), (0, 2), (0, 3)]) (q := 27) (x := 0) (L := enL as 4) (st := []) (h := h) hΦ (fun j C e => match j, e with | 0, e => (by cases e; exact s_void) | _ + 1, e => (by cases e)) (fun j g e => match j, e with | 0, e => (by cases e; exact gd_within (0) (7)) | 1, e => (by cases e; exact gd_within (0) (23)) | 2, e => (by cases e; exact gd_within (0) (15)) | _ + 3, e => (by cases e)) (RS := C_X11_mint_6.2.2) (Rv := (fun r h' => ∃ q, q ∈ C_X11_mint_6.2.2 ∧ gR q.1 r ∧ all2 (gC ρ0 τ) q.2 h')) (GR := none) (M := (0, [])) (fun r h' q hq h1 h2 _ => ⟨q, hq, h1, h2⟩) ⟨door ha, trivial, hh⟩ (by decide +kernel)

def P_X12_mint_1 : List Nd := [(1, [], [1, 1]), (0, [0], [2]), (0, [7], [3]), (31, [], [15, 5, 0, 0, 3]), (10, [], [15, 5, 0]), (1, [], [6, 2]), (0, [0], [7]), (0, [23], [8]), (31, [], [15, 10, 1, 0, 3]), (10, [], [15, 10, 0]), (1, [], [11, 3]), (0, [0], [12]), (0, [15], [13]), (31, [], [15, 17, 2, 0, 3]), (10, [], [15, 17, 0]), (0, [0], [16]), (25, [], []), (2, [], [18, 0]), (18, [], [19, 3, 11]), (1, [], [20, 1]), (0, [24], [21]), (1, [], [22, 3]), (6, [], [23, 2]), (1, [], [24, 2]), (6, [], [25, 0]), (21, [], [26, 0]), (0, [1], [27]), (25, [], [])]
def C_X12_mint_1 : Con := ([.inr (.inr (some (.inl 0))), .inl (-2147483648, -1), .inl (-2147483648, 2147483647), .inl (-2147483648, 2147483647)], hc_f7714c99f6, [(some (0, 0), hc_f7714c99f6)])
set_option maxRecDepth 100000 in
theorem s_X12_mint_1 {l : Launch} : conOk (MetP l 1 yX12_mint cX12_mint 4 (some .boolean) 0 0) C_X12_mint_1 := by
  intro τ hΦ as h ha hh
  refine m_X12_mint  (by rw [all2_len ha]; exact Nat.le_of_ble_eq_true rfl) ?_
  · exact run0 (τ := τ) (P := P_X12_mint_1) (CE := []) (CS := []) (Ms := []) (GS := [(([topA, .inl (0, 2147483647), .inl (-2147483648, 7)], [], some (0, 1), []), 0, 0, 7), (([topA, .inl (0, 2147483647), .inl (-2147483648, 23)], [], some (0, 1), []), 0, 0, 23), (([topA, .inl (0, 2147483647), .inl (-2147483648, 15)], [], some (0, 1), []), 0, 0, 15)]) (Mg := [MetP l 0 yX12_in cX12_in 3 (some .boolean) 0 0, MetP l 0 yX12_in cX12_in 3 (some .boolean) 0 0, MetP l 0 yX12_in cX12_in 3 (some .boolean) 0 0]) (T := ((C_X12_mint_1.1.map some ++ List.replicate (4 - 4) none, [], C_X12_mint_1.2.1) : Tg)) (sl := [(0, 1), (0, 2), (0, 3)]) (q := 30) (x := 0) (L := enL as 4) (st := []) (h := h) hΦ (fun j C e => match j, e with | _ + 0, e => (by cases e)) (fun j g e => match j, e with | 0, e => (by cases e; exact gd_in (0) (7)) | 1, e => (by cases e; exact gd_in (0) (23)) | 2, e => (by cases e; exact gd_in (0) (15)) | _ + 3, e => (by cases e)) (RS := C_X12_mint_1.2.2) (Rv := (fun r h' => ∃ q, q ∈ C_X12_mint_1.2.2 ∧ gR q.1 r ∧ all2 (gC ρ0 τ) q.2 h')) (GR := none) (M := (0, [])) (fun r h' q hq h1 h2 _ => ⟨q, hq, h1, h2⟩) ⟨door ha, trivial, hh⟩ (by decide +kernel)

def P_X12_mint_2 : List Nd := [(1, [], [1, 1]), (0, [0], [2]), (0, [7], [3]), (31, [], [15, 5, 0, 0, 3]), (10, [], [15, 5, 0]), (1, [], [6, 2]), (0, [0], [7]), (0, [23], [8]), (31, [], [15, 10, 1, 0, 3]), (10, [], [15, 10, 0]), (1, [], [11, 3]), (0, [0], [12]), (0, [15], [13]), (31, [], [15, 17, 2, 0, 3]), (10, [], [15, 17, 0]), (0, [0], [16]), (25, [], []), (2, [], [18, 0]), (18, [], [19, 3, 11]), (1, [], [20, 1]), (0, [24], [21]), (1, [], [22, 3]), (6, [], [23, 2]), (1, [], [24, 2]), (6, [], [25, 0]), (21, [], [26, 0]), (0, [1], [27]), (25, [], [])]
def C_X12_mint_2 : Con := ([.inr (.inr (some (.inl 0))), .inl (8, 2147483647), .inl (-2147483648, 2147483647), .inl (-2147483648, 2147483647)], hc_f7714c99f6, [(some (0, 0), hc_f7714c99f6)])
set_option maxRecDepth 100000 in
theorem s_X12_mint_2 {l : Launch} : conOk (MetP l 1 yX12_mint cX12_mint 4 (some .boolean) 0 0) C_X12_mint_2 := by
  intro τ hΦ as h ha hh
  refine m_X12_mint  (by rw [all2_len ha]; exact Nat.le_of_ble_eq_true rfl) ?_
  · exact run0 (τ := τ) (P := P_X12_mint_2) (CE := []) (CS := []) (Ms := []) (GS := [(([topA, .inl (0, 2147483647), .inl (-2147483648, 7)], [], some (0, 1), []), 0, 0, 7), (([topA, .inl (0, 2147483647), .inl (-2147483648, 23)], [], some (0, 1), []), 0, 0, 23), (([topA, .inl (0, 2147483647), .inl (-2147483648, 15)], [], some (0, 1), []), 0, 0, 15)]) (Mg := [MetP l 0 yX12_in cX12_in 3 (some .boolean) 0 0, MetP l 0 yX12_in cX12_in 3 (some .boolean) 0 0, MetP l 0 yX12_in cX12_in 3 (some .boolean) 0 0]) (T := ((C_X12_mint_2.1.map some ++ List.replicate (4 - 4) none, [], C_X12_mint_2.2.1) : Tg)) (sl := [(0, 1), (0, 2), (0, 3)]) (q := 30) (x := 0) (L := enL as 4) (st := []) (h := h) hΦ (fun j C e => match j, e with | _ + 0, e => (by cases e)) (fun j g e => match j, e with | 0, e => (by cases e; exact gd_in (0) (7)) | 1, e => (by cases e; exact gd_in (0) (23)) | 2, e => (by cases e; exact gd_in (0) (15)) | _ + 3, e => (by cases e)) (RS := C_X12_mint_2.2.2) (Rv := (fun r h' => ∃ q, q ∈ C_X12_mint_2.2.2 ∧ gR q.1 r ∧ all2 (gC ρ0 τ) q.2 h')) (GR := none) (M := (0, [])) (fun r h' q hq h1 h2 _ => ⟨q, hq, h1, h2⟩) ⟨door ha, trivial, hh⟩ (by decide +kernel)

def P_X12_mint_3 : List Nd := [(1, [], [1, 1]), (0, [0], [2]), (0, [7], [3]), (31, [], [15, 5, 0, 0, 3]), (10, [], [15, 5, 0]), (1, [], [6, 2]), (0, [0], [7]), (0, [23], [8]), (31, [], [15, 10, 1, 0, 3]), (10, [], [15, 10, 0]), (1, [], [11, 3]), (0, [0], [12]), (0, [15], [13]), (31, [], [15, 17, 2, 0, 3]), (10, [], [15, 17, 0]), (0, [0], [16]), (25, [], []), (2, [], [18, 0]), (18, [], [19, 3, 11]), (1, [], [20, 1]), (0, [24], [21]), (1, [], [22, 3]), (6, [], [23, 2]), (1, [], [24, 2]), (6, [], [25, 0]), (21, [], [26, 0]), (0, [1], [27]), (25, [], [])]
def C_X12_mint_3 : Con := ([.inr (.inr (some (.inl 0))), .inl (-2147483648, 2147483647), .inl (-2147483648, -1), .inl (-2147483648, 2147483647)], hc_f7714c99f6, [(some (0, 0), hc_f7714c99f6)])
set_option maxRecDepth 100000 in
theorem s_X12_mint_3 {l : Launch} : conOk (MetP l 1 yX12_mint cX12_mint 4 (some .boolean) 0 0) C_X12_mint_3 := by
  intro τ hΦ as h ha hh
  refine m_X12_mint  (by rw [all2_len ha]; exact Nat.le_of_ble_eq_true rfl) ?_
  · exact run0 (τ := τ) (P := P_X12_mint_3) (CE := []) (CS := []) (Ms := []) (GS := [(([topA, .inl (0, 2147483647), .inl (-2147483648, 7)], [], some (0, 1), []), 0, 0, 7), (([topA, .inl (0, 2147483647), .inl (-2147483648, 23)], [], some (0, 1), []), 0, 0, 23), (([topA, .inl (0, 2147483647), .inl (-2147483648, 15)], [], some (0, 1), []), 0, 0, 15)]) (Mg := [MetP l 0 yX12_in cX12_in 3 (some .boolean) 0 0, MetP l 0 yX12_in cX12_in 3 (some .boolean) 0 0, MetP l 0 yX12_in cX12_in 3 (some .boolean) 0 0]) (T := ((C_X12_mint_3.1.map some ++ List.replicate (4 - 4) none, [], C_X12_mint_3.2.1) : Tg)) (sl := [(0, 1), (0, 2), (0, 3)]) (q := 30) (x := 0) (L := enL as 4) (st := []) (h := h) hΦ (fun j C e => match j, e with | _ + 0, e => (by cases e)) (fun j g e => match j, e with | 0, e => (by cases e; exact gd_in (0) (7)) | 1, e => (by cases e; exact gd_in (0) (23)) | 2, e => (by cases e; exact gd_in (0) (15)) | _ + 3, e => (by cases e)) (RS := C_X12_mint_3.2.2) (Rv := (fun r h' => ∃ q, q ∈ C_X12_mint_3.2.2 ∧ gR q.1 r ∧ all2 (gC ρ0 τ) q.2 h')) (GR := none) (M := (0, [])) (fun r h' q hq h1 h2 _ => ⟨q, hq, h1, h2⟩) ⟨door ha, trivial, hh⟩ (by decide +kernel)

def P_X12_mint_4 : List Nd := [(1, [], [1, 1]), (0, [0], [2]), (0, [7], [3]), (31, [], [15, 5, 0, 0, 3]), (10, [], [15, 5, 0]), (1, [], [6, 2]), (0, [0], [7]), (0, [23], [8]), (31, [], [15, 10, 1, 0, 3]), (10, [], [15, 10, 0]), (1, [], [11, 3]), (0, [0], [12]), (0, [15], [13]), (31, [], [15, 17, 2, 0, 3]), (10, [], [15, 17, 0]), (0, [0], [16]), (25, [], []), (2, [], [18, 0]), (18, [], [19, 3, 11]), (1, [], [20, 1]), (0, [24], [21]), (1, [], [22, 3]), (6, [], [23, 2]), (1, [], [24, 2]), (6, [], [25, 0]), (21, [], [26, 0]), (0, [1], [27]), (25, [], [])]
def C_X12_mint_4 : Con := ([.inr (.inr (some (.inl 0))), .inl (-2147483648, 2147483647), .inl (24, 2147483647), .inl (-2147483648, 2147483647)], hc_f7714c99f6, [(some (0, 0), hc_f7714c99f6)])
set_option maxRecDepth 100000 in
theorem s_X12_mint_4 {l : Launch} : conOk (MetP l 1 yX12_mint cX12_mint 4 (some .boolean) 0 0) C_X12_mint_4 := by
  intro τ hΦ as h ha hh
  refine m_X12_mint  (by rw [all2_len ha]; exact Nat.le_of_ble_eq_true rfl) ?_
  · exact run0 (τ := τ) (P := P_X12_mint_4) (CE := []) (CS := []) (Ms := []) (GS := [(([topA, .inl (0, 2147483647), .inl (-2147483648, 7)], [], some (0, 1), []), 0, 0, 7), (([topA, .inl (0, 2147483647), .inl (-2147483648, 23)], [], some (0, 1), []), 0, 0, 23), (([topA, .inl (0, 2147483647), .inl (-2147483648, 15)], [], some (0, 1), []), 0, 0, 15)]) (Mg := [MetP l 0 yX12_in cX12_in 3 (some .boolean) 0 0, MetP l 0 yX12_in cX12_in 3 (some .boolean) 0 0, MetP l 0 yX12_in cX12_in 3 (some .boolean) 0 0]) (T := ((C_X12_mint_4.1.map some ++ List.replicate (4 - 4) none, [], C_X12_mint_4.2.1) : Tg)) (sl := [(0, 1), (0, 2), (0, 3)]) (q := 30) (x := 0) (L := enL as 4) (st := []) (h := h) hΦ (fun j C e => match j, e with | _ + 0, e => (by cases e)) (fun j g e => match j, e with | 0, e => (by cases e; exact gd_in (0) (7)) | 1, e => (by cases e; exact gd_in (0) (23)) | 2, e => (by cases e; exact gd_in (0) (15)) | _ + 3, e => (by cases e)) (RS := C_X12_mint_4.2.2) (Rv := (fun r h' => ∃ q, q ∈ C_X12_mint_4.2.2 ∧ gR q.1 r ∧ all2 (gC ρ0 τ) q.2 h')) (GR := none) (M := (0, [])) (fun r h' q hq h1 h2 _ => ⟨q, hq, h1, h2⟩) ⟨door ha, trivial, hh⟩ (by decide +kernel)

def P_X12_mint_5 : List Nd := [(1, [], [1, 1]), (0, [0], [2]), (0, [7], [3]), (31, [], [15, 5, 0, 0, 3]), (10, [], [15, 5, 0]), (1, [], [6, 2]), (0, [0], [7]), (0, [23], [8]), (31, [], [15, 10, 1, 0, 3]), (10, [], [15, 10, 0]), (1, [], [11, 3]), (0, [0], [12]), (0, [15], [13]), (31, [], [15, 17, 2, 0, 3]), (10, [], [15, 17, 0]), (0, [0], [16]), (25, [], []), (2, [], [18, 0]), (18, [], [19, 3, 11]), (1, [], [20, 1]), (0, [24], [21]), (1, [], [22, 3]), (6, [], [23, 2]), (1, [], [24, 2]), (6, [], [25, 0]), (21, [], [26, 0]), (0, [1], [27]), (25, [], [])]
def C_X12_mint_5 : Con := ([.inr (.inr (some (.inl 0))), .inl (-2147483648, 2147483647), .inl (-2147483648, 2147483647), .inl (-2147483648, -1)], hc_f7714c99f6, [(some (0, 0), hc_f7714c99f6)])
set_option maxRecDepth 100000 in
theorem s_X12_mint_5 {l : Launch} : conOk (MetP l 1 yX12_mint cX12_mint 4 (some .boolean) 0 0) C_X12_mint_5 := by
  intro τ hΦ as h ha hh
  refine m_X12_mint  (by rw [all2_len ha]; exact Nat.le_of_ble_eq_true rfl) ?_
  · exact run0 (τ := τ) (P := P_X12_mint_5) (CE := []) (CS := []) (Ms := []) (GS := [(([topA, .inl (0, 2147483647), .inl (-2147483648, 7)], [], some (0, 1), []), 0, 0, 7), (([topA, .inl (0, 2147483647), .inl (-2147483648, 23)], [], some (0, 1), []), 0, 0, 23), (([topA, .inl (0, 2147483647), .inl (-2147483648, 15)], [], some (0, 1), []), 0, 0, 15)]) (Mg := [MetP l 0 yX12_in cX12_in 3 (some .boolean) 0 0, MetP l 0 yX12_in cX12_in 3 (some .boolean) 0 0, MetP l 0 yX12_in cX12_in 3 (some .boolean) 0 0]) (T := ((C_X12_mint_5.1.map some ++ List.replicate (4 - 4) none, [], C_X12_mint_5.2.1) : Tg)) (sl := [(0, 1), (0, 2), (0, 3)]) (q := 30) (x := 0) (L := enL as 4) (st := []) (h := h) hΦ (fun j C e => match j, e with | _ + 0, e => (by cases e)) (fun j g e => match j, e with | 0, e => (by cases e; exact gd_in (0) (7)) | 1, e => (by cases e; exact gd_in (0) (23)) | 2, e => (by cases e; exact gd_in (0) (15)) | _ + 3, e => (by cases e)) (RS := C_X12_mint_5.2.2) (Rv := (fun r h' => ∃ q, q ∈ C_X12_mint_5.2.2 ∧ gR q.1 r ∧ all2 (gC ρ0 τ) q.2 h')) (GR := none) (M := (0, [])) (fun r h' q hq h1 h2 _ => ⟨q, hq, h1, h2⟩) ⟨door ha, trivial, hh⟩ (by decide +kernel)

def P_X12_mint_6 : List Nd := [(1, [], [1, 1]), (0, [0], [2]), (0, [7], [3]), (31, [], [15, 5, 0, 0, 3]), (10, [], [15, 5, 0]), (1, [], [6, 2]), (0, [0], [7]), (0, [23], [8]), (31, [], [15, 10, 1, 0, 3]), (10, [], [15, 10, 0]), (1, [], [11, 3]), (0, [0], [12]), (0, [15], [13]), (31, [], [15, 17, 2, 0, 3]), (10, [], [15, 17, 0]), (0, [0], [16]), (25, [], []), (2, [], [18, 0]), (18, [], [19, 3, 11]), (1, [], [20, 1]), (0, [24], [21]), (1, [], [22, 3]), (6, [], [23, 2]), (1, [], [24, 2]), (6, [], [25, 0]), (21, [], [26, 0]), (0, [1], [27]), (25, [], [])]
def C_X12_mint_6 : Con := ([.inr (.inr (some (.inl 0))), .inl (-2147483648, 2147483647), .inl (-2147483648, 2147483647), .inl (16, 2147483647)], hc_f7714c99f6, [(some (0, 0), hc_f7714c99f6)])
set_option maxRecDepth 100000 in
theorem s_X12_mint_6 {l : Launch} : conOk (MetP l 1 yX12_mint cX12_mint 4 (some .boolean) 0 0) C_X12_mint_6 := by
  intro τ hΦ as h ha hh
  refine m_X12_mint  (by rw [all2_len ha]; exact Nat.le_of_ble_eq_true rfl) ?_
  · exact run0 (τ := τ) (P := P_X12_mint_6) (CE := []) (CS := []) (Ms := []) (GS := [(([topA, .inl (0, 2147483647), .inl (-2147483648, 7)], [], some (0, 1), []), 0, 0, 7), (([topA, .inl (0, 2147483647), .inl (-2147483648, 23)], [], some (0, 1), []), 0, 0, 23), (([topA, .inl (0, 2147483647), .inl (-2147483648, 15)], [], some (0, 1), []), 0, 0, 15)]) (Mg := [MetP l 0 yX12_in cX12_in 3 (some .boolean) 0 0, MetP l 0 yX12_in cX12_in 3 (some .boolean) 0 0, MetP l 0 yX12_in cX12_in 3 (some .boolean) 0 0]) (T := ((C_X12_mint_6.1.map some ++ List.replicate (4 - 4) none, [], C_X12_mint_6.2.1) : Tg)) (sl := [(0, 1), (0, 2), (0, 3)]) (q := 30) (x := 0) (L := enL as 4) (st := []) (h := h) hΦ (fun j C e => match j, e with | _ + 0, e => (by cases e)) (fun j g e => match j, e with | 0, e => (by cases e; exact gd_in (0) (7)) | 1, e => (by cases e; exact gd_in (0) (23)) | 2, e => (by cases e; exact gd_in (0) (15)) | _ + 3, e => (by cases e)) (RS := C_X12_mint_6.2.2) (Rv := (fun r h' => ∃ q, q ∈ C_X12_mint_6.2.2 ∧ gR q.1 r ∧ all2 (gC ρ0 τ) q.2 h')) (GR := none) (M := (0, [])) (fun r h' q hq h1 h2 _ => ⟨q, hq, h1, h2⟩) ⟨door ha, trivial, hh⟩ (by decide +kernel)

/-! ===== rows with exact answers ===== -/
def upL (τ : Nat → List (Option Nat)) (k : Nat) (l : List (Option Nat)) (t : Nat) : List (Option Nat) := match Nat.beq t k with
  | true => l
  | false => τ t
theorem upL_ne {τ : Nat → List (Option Nat)} {k t : Nat} {l : List (Option Nat)} (h : t ≠ k) : upL τ k l t = τ t := by
  unfold upL
  cases e : Nat.beq t k
  · rfl
  · exact absurd (Nat.eq_of_beq_eq_true e) h
theorem upL_at {τ : Nat → List (Option Nat)} {k : Nat} {l : List (Option Nat)} : upL τ k l k = l := by
  unfold upL
  rw [Nat.beq_refl]
theorem ch_ne {t k : Nat} (h : (Nat.ble 100 t && Nat.beq t k) = false) (hk : Nat.ble 100 k = true) : t ≠ k := fun z => by
  subst z
  rw [hk, Nat.beq_refl] at h
  cases h
theorem sq_4 : ∀ n, n ≤ 4 → n * n ≤ 16 := by decide
theorem sq_6 : ∀ n, n ≤ 6 → n * n ≤ 36 := by decide
theorem of_7 {τ : Nat → List (Option Nat)} {n : Nat} {f : Nat → Int32} (b : f 0 = 0) : ∀ i, i < n → (sel 700 i = true → (0 : Int) ≤ (f i).toInt ∧ (f i).toInt ≤ 0) ∧ (700 = 5 → f i = decA (τ (0 : Int).toNat) i) ∧ (Nat.ble 10 700 = true → g3 τ 700 i (f i)) := fun i _ => ⟨fun z => by
  have q : i + 700 = 700 := Nat.eq_of_beq_eq_true z
  rw [show i = 0 by omega, b]
  exact ⟨by decide, by decide⟩, fun z => absurd z (by decide), fun _ => g3_m rfl rfl⟩

def HX_feedC (c : Nat) : List AC := [.inr (10, [.inr (.inr (some (.inl 1))), .inr (.inr (some (.inr 0))), .inr (.inr (some (.inr 1))), .inr (.inr (some (.inr 2))), .inr (.inr (some (.inr 3))), .inr (.inr (some (.inr 4))), .inr (.inr (some (.inr 5))), .inr (.inr (some (.inr 6))), .inr (.inr (some (.inr 7))), .inr (.inr (some (.inr 8))), .inr (.inr (some (.inr 9))), .inr (.inr (some (.inr 10))), .inr (.inr (some (.inr 11))), .inr (.inr (some (.inr 12))), .inr (.inr (some (.inr 201)))]), .inr (9, [.inr (.inr (some (.inl 2))), .inl ((((c : Nat) : Int) : Int), (((c : Nat) : Int) : Int))]), .inl (1000, 260, 0, 255)]
def HY_feedC (c : Nat) : List AC := [.inr (10, [.inr (.inr (some (.inl 1))), .inr (.inr (some (.inr 0))), .inr (.inr (some (.inr 1))), .inr (.inr (some (.inr 2))), .inr (.inr (some (.inr 3))), .inr (.inr (some (.inr 4))), .inr (.inr (some (.inr 5))), .inr (.inr (some (.inr 6))), .inr (.inr (some (.inr 7))), .inr (.inr (some (.inr 8))), .inr (.inr (some (.inr 9))), .inr (.inr (some (.inr 10))), .inr (.inr (some (.inr 11))), .inr (.inr (some (.inr 12))), .inr (.inr (some (.inr 201)))]), .inr (9, [.inr (.inr (some (.inl 2))), .inl ((((c + 20 : Nat) : Int) : Int), (((c + 20 : Nat) : Int) : Int))]), .inl (1000, 260, 0, 255)]
def HN_feedC : List AC := [.inr (10, [.inr (.inr (some (.inl 1))), .inr (.inr (some (.inr 0))), .inr (.inr (some (.inr 1))), .inr (.inr (some (.inr 2))), .inr (.inr (some (.inr 3))), .inr (.inr (some (.inr 4))), .inr (.inr (some (.inr 5))), .inr (.inr (some (.inr 6))), .inr (.inr (some (.inr 7))), .inr (.inr (some (.inr 8))), .inr (.inr (some (.inr 9))), .inr (.inr (some (.inr 10))), .inr (.inr (some (.inr 11))), .inr (.inr (some (.inr 12))), .inr (.inr (some (.inr 201)))]), .inr (9, [.inr (.inr (some (.inl 2))), .inl (260, 260)]), .inl (1000, 260, 0, 255)]
set_option maxRecDepth 100000 in
theorem x_feedC {l : Launch} {c : Nat} {a b d e f : Int32} (hc : c + 20 ≤ 260) : conOkX (MetP l 2 yX11_feed cX11_feed 6 (some .int) 0 0) [a, b, d, e, f] (HX_feedC c) (HY_feedC c) (fun t => Nat.beq t 250) (fun _ => True) (fun τ τ' y => y = nI (c + 20) ∧ ∃ F : Nat → Int32, (∀ i, i < 260 → F i = decA (τ 250) i) ∧ ∀ i, i < 260 → decA (τ' 250) i = fdC F c a b d e f i) := by
  intro τ hΦ hP h hh
  have z := all2_cons hh
  clear hh
  obtain ⟨e0, h, rfl, g0, hh⟩ := z
  rcases e0 with ⟨t0, n0, f0⟩ | ⟨ci, fs⟩
  · exact g0.elim
  obtain ⟨rfl, gf⟩ := g0
  have z := all2_cons gf
  clear gf
  obtain ⟨v0, fs, rfl, q0, gf⟩ := z
  cases (q0 : v0 = .inr (some (.inl 1)))
  have z := all2_cons gf
  clear gf
  obtain ⟨v0, fs, rfl, q0, gf⟩ := z
  cases gT_r (τ := τ) (t := 0) (v := v0) rfl q0
  have z := all2_cons gf
  clear gf
  obtain ⟨v0, fs, rfl, q0, gf⟩ := z
  cases gT_r (τ := τ) (t := 1) (v := v0) rfl q0
  have z := all2_cons gf
  clear gf
  obtain ⟨v0, fs, rfl, q0, gf⟩ := z
  cases gT_r (τ := τ) (t := 2) (v := v0) rfl q0
  have z := all2_cons gf
  clear gf
  obtain ⟨v0, fs, rfl, q0, gf⟩ := z
  cases gT_r (τ := τ) (t := 3) (v := v0) rfl q0
  have z := all2_cons gf
  clear gf
  obtain ⟨v0, fs, rfl, q0, gf⟩ := z
  cases gT_r (τ := τ) (t := 4) (v := v0) rfl q0
  have z := all2_cons gf
  clear gf
  obtain ⟨v0, fs, rfl, q0, gf⟩ := z
  cases gT_r (τ := τ) (t := 5) (v := v0) rfl q0
  have z := all2_cons gf
  clear gf
  obtain ⟨v0, fs, rfl, q0, gf⟩ := z
  cases gT_r (τ := τ) (t := 6) (v := v0) rfl q0
  have z := all2_cons gf
  clear gf
  obtain ⟨v0, fs, rfl, q0, gf⟩ := z
  cases gT_r (τ := τ) (t := 7) (v := v0) rfl q0
  have z := all2_cons gf
  clear gf
  obtain ⟨v0, fs, rfl, q0, gf⟩ := z
  cases gT_r (τ := τ) (t := 8) (v := v0) rfl q0
  have z := all2_cons gf
  clear gf
  obtain ⟨v0, fs, rfl, q0, gf⟩ := z
  cases gT_r (τ := τ) (t := 9) (v := v0) rfl q0
  have z := all2_cons gf
  clear gf
  obtain ⟨v0, fs, rfl, q0, gf⟩ := z
  cases gT_r (τ := τ) (t := 10) (v := v0) rfl q0
  have z := all2_cons gf
  clear gf
  obtain ⟨v0, fs, rfl, q0, gf⟩ := z
  cases gT_r (τ := τ) (t := 11) (v := v0) rfl q0
  have z := all2_cons gf
  clear gf
  obtain ⟨v0, fs, rfl, q0, gf⟩ := z
  cases gT_r (τ := τ) (t := 12) (v := v0) rfl q0
  have z := all2_cons gf
  clear gf
  obtain ⟨v0, fs, rfl, q0, gf⟩ := z
  obtain ⟨HS_wasKept, rfl, e_HS_wasKept, b_HS_wasKept⟩ := gT_x (τ := τ) (t := 201) (v := v0) rfl q0
  cases fs with
  | cons _ _ => exact gf.elim
  | nil =>
    have z := all2_cons hh
    clear hh
    obtain ⟨e0, h, rfl, g0, hh⟩ := z
    rcases e0 with ⟨t0, n0, f0⟩ | ⟨ci, fs⟩
    · exact g0.elim
    obtain ⟨rfl, gf⟩ := g0
    have z := all2_cons gf
    clear gf
    obtain ⟨v0, fs, rfl, q0, gf⟩ := z
    cases (q0 : v0 = .inr (some (.inl 2)))
    have z := all2_cons gf
    clear gf
    obtain ⟨v0, fs, rfl, q0, gf⟩ := z
    obtain ⟨Tape_size, rfl, b_Tape_size⟩ := q0
    cases fs with
    | cons _ _ => exact gf.elim
    | nil =>
      have z := all2_cons hh
      clear hh
      obtain ⟨e1, h, rfl, g1, hh⟩ := z
      rcases e1 with ⟨t1, n1, Tape_bytes⟩ | ⟨ci, fs⟩
      rotate_left
      · exact g1.elim
      obtain ⟨et, en, b_Tape_bytes⟩ := g1
      cases (et : t1 = 0)
      cases en
      cases h with
      | cons _ _ => exact hh.elim
      | nil =>
        obtain ⟨s, hs, rfl⟩ := rng_n (x := Tape_size) (k := 260) (by omega) (by omega)
        have es := sz_n (c := s) (by omega)
        obtain rfl : s = c := by omega
        obtain ⟨rF, eF⟩ := rg_x rfl b_Tape_bytes
        refine (c_X11_feed hc).mono (fun r h' hp => ?_)
        obtain ⟨rfl, rfl⟩ := hp
        exact ⟨upL τ 250 (encA (fdC Tape_bytes s a b d e f) 260), nI (s + 20), hΦ, fun t ht => upL_ne (ch_ne ht rfl), rfl, ⟨rfl, Tape_bytes, eF, fun i hi => by rw [upL_at]; exact encA_ok hi⟩, ⟨⟨rfl, rfl, rfl, rfl, rfl, rfl, rfl, rfl, rfl, rfl, rfl, rfl, rfl, rfl, rfl, gT_mk rfl e_HS_wasKept b_HS_wasKept, trivial⟩, ⟨rfl, rfl, ⟨_, rfl, sz_n (by omega)⟩, trivial⟩, ⟨rfl, rfl, of_x rfl (fdC_rg rF) (fun i hi => (encA_ok hi).symm)⟩, trivial⟩⟩

set_option maxRecDepth 100000 in
theorem n_feedC {l : Launch} {a b d e f : Int32} : conOkX (MetP l 2 yX11_feed cX11_feed 6 (some .int) 0 0) [a, b, d, e, f] HN_feedC HN_feedC (fun _ => false) (fun _ => True) (fun _ _ y => y = -1) := by
  intro τ hΦ hP h hh
  have z := all2_cons hh
  clear hh
  obtain ⟨e0, h, rfl, g0, hh⟩ := z
  rcases e0 with ⟨t0, n0, f0⟩ | ⟨ci, fs⟩
  · exact g0.elim
  obtain ⟨rfl, gf⟩ := g0
  have z := all2_cons gf
  clear gf
  obtain ⟨v0, fs, rfl, q0, gf⟩ := z
  cases (q0 : v0 = .inr (some (.inl 1)))
  have z := all2_cons gf
  clear gf
  obtain ⟨v0, fs, rfl, q0, gf⟩ := z
  cases gT_r (τ := τ) (t := 0) (v := v0) rfl q0
  have z := all2_cons gf
  clear gf
  obtain ⟨v0, fs, rfl, q0, gf⟩ := z
  cases gT_r (τ := τ) (t := 1) (v := v0) rfl q0
  have z := all2_cons gf
  clear gf
  obtain ⟨v0, fs, rfl, q0, gf⟩ := z
  cases gT_r (τ := τ) (t := 2) (v := v0) rfl q0
  have z := all2_cons gf
  clear gf
  obtain ⟨v0, fs, rfl, q0, gf⟩ := z
  cases gT_r (τ := τ) (t := 3) (v := v0) rfl q0
  have z := all2_cons gf
  clear gf
  obtain ⟨v0, fs, rfl, q0, gf⟩ := z
  cases gT_r (τ := τ) (t := 4) (v := v0) rfl q0
  have z := all2_cons gf
  clear gf
  obtain ⟨v0, fs, rfl, q0, gf⟩ := z
  cases gT_r (τ := τ) (t := 5) (v := v0) rfl q0
  have z := all2_cons gf
  clear gf
  obtain ⟨v0, fs, rfl, q0, gf⟩ := z
  cases gT_r (τ := τ) (t := 6) (v := v0) rfl q0
  have z := all2_cons gf
  clear gf
  obtain ⟨v0, fs, rfl, q0, gf⟩ := z
  cases gT_r (τ := τ) (t := 7) (v := v0) rfl q0
  have z := all2_cons gf
  clear gf
  obtain ⟨v0, fs, rfl, q0, gf⟩ := z
  cases gT_r (τ := τ) (t := 8) (v := v0) rfl q0
  have z := all2_cons gf
  clear gf
  obtain ⟨v0, fs, rfl, q0, gf⟩ := z
  cases gT_r (τ := τ) (t := 9) (v := v0) rfl q0
  have z := all2_cons gf
  clear gf
  obtain ⟨v0, fs, rfl, q0, gf⟩ := z
  cases gT_r (τ := τ) (t := 10) (v := v0) rfl q0
  have z := all2_cons gf
  clear gf
  obtain ⟨v0, fs, rfl, q0, gf⟩ := z
  cases gT_r (τ := τ) (t := 11) (v := v0) rfl q0
  have z := all2_cons gf
  clear gf
  obtain ⟨v0, fs, rfl, q0, gf⟩ := z
  cases gT_r (τ := τ) (t := 12) (v := v0) rfl q0
  have z := all2_cons gf
  clear gf
  obtain ⟨v0, fs, rfl, q0, gf⟩ := z
  obtain ⟨HS_wasKept, rfl, e_HS_wasKept, b_HS_wasKept⟩ := gT_x (τ := τ) (t := 201) (v := v0) rfl q0
  cases fs with
  | cons _ _ => exact gf.elim
  | nil =>
    have z := all2_cons hh
    clear hh
    obtain ⟨e0, h, rfl, g0, hh⟩ := z
    rcases e0 with ⟨t0, n0, f0⟩ | ⟨ci, fs⟩
    · exact g0.elim
    obtain ⟨rfl, gf⟩ := g0
    have z := all2_cons gf
    clear gf
    obtain ⟨v0, fs, rfl, q0, gf⟩ := z
    cases (q0 : v0 = .inr (some (.inl 2)))
    have z := all2_cons gf
    clear gf
    obtain ⟨v0, fs, rfl, q0, gf⟩ := z
    obtain ⟨Tape_size, rfl, b_Tape_size⟩ := q0
    cases fs with
    | cons _ _ => exact gf.elim
    | nil =>
      have z := all2_cons hh
      clear hh
      obtain ⟨e1, h, rfl, g1, hh⟩ := z
      rcases e1 with ⟨t1, n1, Tape_bytes⟩ | ⟨ci, fs⟩
      rotate_left
      · exact g1.elim
      obtain ⟨et, en, b_Tape_bytes⟩ := g1
      cases (et : t1 = 0)
      cases en
      cases h with
      | cons _ _ => exact hh.elim
      | nil =>
        obtain rfl : Tape_size = nI 260 := i32eq.mpr (show Tape_size.toInt = 260 by omega)
        refine n_X11_feed.mono (fun r h' hp => ?_)
        obtain ⟨rfl, rfl⟩ := hp
        exact ⟨τ, -1, hΦ, fun _ _ => rfl, rfl, rfl, ⟨⟨rfl, rfl, rfl, rfl, rfl, rfl, rfl, rfl, rfl, rfl, rfl, rfl, rfl, rfl, rfl, gT_mk rfl e_HS_wasKept b_HS_wasKept, trivial⟩, ⟨rfl, rfl, ⟨_, rfl, b_Tape_size⟩, trivial⟩, ⟨rfl, rfl, b_Tape_bytes⟩, trivial⟩⟩

def HX_feedR (c : Nat) : List AC := [.inr (11, [.inr (.inr (some (.inr 0))), .inr (.inr (some (.inr 1))), .inr (.inr (some (.inr 2))), .inr (.inr (some (.inr 3))), .inr (.inr (some (.inr 4))), .inr (.inr (some (.inr 5))), .inr (.inr (some (.inr 6))), .inr (.inr (some (.inr 7))), .inl (0, 48), .inr (.inr (some (.inl 1))), .inl ((((c : Nat) : Int) : Int), (((c : Nat) : Int) : Int)), .inl (0, 240), .inl (0, 240), .inl (-2147483648, 2147483647), .inl (-2147483648, 2147483647), .inl (-2147483648, 2147483647), .inl (0, 260), .inl (0, 260), .inl (0, 16), .inr (.inr (some (.inr 200))), .inr (.inr (some (.inr 8))), .inr (.inr (some (.inr 9))), .inr (.inr (some (.inr 10))), .inr (.inr (some (.inr 11))), .inr (.inr (some (.inr 12))), .inr (.inr (some (.inr 13))), .inr (.inr (some (.inr 14))), .inr (.inr (some (.inr 15))), .inr (.inr (some (.inr 16))), .inr (.inr (some (.inr 17))), .inr (.inr (some (.inr 18))), .inr (.inr (some (.inr 19))), .inr (.inr (some (.inr 20))), .inr (.inr (some (.inr 21))), .inr (.inr (some (.inr 22))), .inr (.inr (some (.inr 23))), .inr (.inr (some (.inr 24))), .inl (-2147483648, 2147483647), .inl (-2147483648, 2147483647), .inl (-2147483648, 2147483647), .inl (-2147483648, 2147483647), .inl (-2147483648, 2147483647), .inl (-2147483648, 2147483647), .inl (-2147483648, 2147483647), .inl (-2147483648, 2147483647), .inl (-2147483648, 2147483647), .inl (-2147483648, 2147483647), .inr (.inr (some (.inr 25))), .inr (.inr (some (.inr 26))), .inr (.inr (some (.inr 27))), .inr (.inr (some (.inr 28))), .inr (.inr (some (.inr 29))), .inr (.inr (some (.inr 201)))]), .inl (1005, 260, -128, 127)]
def HY_feedR (c : Nat) : List AC := [.inr (11, [.inr (.inr (some (.inr 0))), .inr (.inr (some (.inr 1))), .inr (.inr (some (.inr 2))), .inr (.inr (some (.inr 3))), .inr (.inr (some (.inr 4))), .inr (.inr (some (.inr 5))), .inr (.inr (some (.inr 6))), .inr (.inr (some (.inr 7))), .inl (0, 48), .inr (.inr (some (.inl 1))), .inl ((((c + 20 : Nat) : Int) : Int), (((c + 20 : Nat) : Int) : Int)), .inl (0, 240), .inl (0, 240), .inl (-2147483648, 2147483647), .inl (-2147483648, 2147483647), .inl (-2147483648, 2147483647), .inl (0, 260), .inl (0, 260), .inl (0, 16), .inr (.inr (some (.inr 200))), .inr (.inr (some (.inr 8))), .inr (.inr (some (.inr 9))), .inr (.inr (some (.inr 10))), .inr (.inr (some (.inr 11))), .inr (.inr (some (.inr 12))), .inr (.inr (some (.inr 13))), .inr (.inr (some (.inr 14))), .inr (.inr (some (.inr 15))), .inr (.inr (some (.inr 16))), .inr (.inr (some (.inr 17))), .inr (.inr (some (.inr 18))), .inr (.inr (some (.inr 19))), .inr (.inr (some (.inr 20))), .inr (.inr (some (.inr 21))), .inr (.inr (some (.inr 22))), .inr (.inr (some (.inr 23))), .inr (.inr (some (.inr 24))), .inl (-2147483648, 2147483647), .inl (-2147483648, 2147483647), .inl (-2147483648, 2147483647), .inl (-2147483648, 2147483647), .inl (-2147483648, 2147483647), .inl (-2147483648, 2147483647), .inl (-2147483648, 2147483647), .inl (-2147483648, 2147483647), .inl (-2147483648, 2147483647), .inl (-2147483648, 2147483647), .inr (.inr (some (.inr 25))), .inr (.inr (some (.inr 26))), .inr (.inr (some (.inr 27))), .inr (.inr (some (.inr 28))), .inr (.inr (some (.inr 29))), .inr (.inr (some (.inr 201)))]), .inl (1005, 260, -128, 127)]
def HN_feedR : List AC := [.inr (11, [.inr (.inr (some (.inr 0))), .inr (.inr (some (.inr 1))), .inr (.inr (some (.inr 2))), .inr (.inr (some (.inr 3))), .inr (.inr (some (.inr 4))), .inr (.inr (some (.inr 5))), .inr (.inr (some (.inr 6))), .inr (.inr (some (.inr 7))), .inl (0, 48), .inr (.inr (some (.inl 1))), .inl (260, 260), .inl (0, 240), .inl (0, 240), .inl (-2147483648, 2147483647), .inl (-2147483648, 2147483647), .inl (-2147483648, 2147483647), .inl (0, 260), .inl (0, 260), .inl (0, 16), .inr (.inr (some (.inr 200))), .inr (.inr (some (.inr 8))), .inr (.inr (some (.inr 9))), .inr (.inr (some (.inr 10))), .inr (.inr (some (.inr 11))), .inr (.inr (some (.inr 12))), .inr (.inr (some (.inr 13))), .inr (.inr (some (.inr 14))), .inr (.inr (some (.inr 15))), .inr (.inr (some (.inr 16))), .inr (.inr (some (.inr 17))), .inr (.inr (some (.inr 18))), .inr (.inr (some (.inr 19))), .inr (.inr (some (.inr 20))), .inr (.inr (some (.inr 21))), .inr (.inr (some (.inr 22))), .inr (.inr (some (.inr 23))), .inr (.inr (some (.inr 24))), .inl (-2147483648, 2147483647), .inl (-2147483648, 2147483647), .inl (-2147483648, 2147483647), .inl (-2147483648, 2147483647), .inl (-2147483648, 2147483647), .inl (-2147483648, 2147483647), .inl (-2147483648, 2147483647), .inl (-2147483648, 2147483647), .inl (-2147483648, 2147483647), .inl (-2147483648, 2147483647), .inr (.inr (some (.inr 25))), .inr (.inr (some (.inr 26))), .inr (.inr (some (.inr 27))), .inr (.inr (some (.inr 28))), .inr (.inr (some (.inr 29))), .inr (.inr (some (.inr 201)))]), .inl (1005, 260, -128, 127)]
set_option maxRecDepth 100000 in
theorem x_feedR {l : Launch} {c : Nat} {a b d e f : Int32} (hc : c + 20 ≤ 260) : conOkX (MetP l 1 yX12_feed cX12_feed 6 (some .int) 0 0) [a, b, d, e, f] (HX_feedR c) (HY_feedR c) (fun t => Nat.beq t 251) (fun _ => True) (fun τ τ' y => y = nI (c + 20) ∧ ∃ F : Nat → Int32, (∀ i, i < 260 → F i = decA (τ 251) i) ∧ ∀ i, i < 260 → decA (τ' 251) i = fdR F c a b d e f i) := by
  intro τ hΦ hP h hh
  have z := all2_cons hh
  clear hh
  obtain ⟨e0, h, rfl, g0, hh⟩ := z
  rcases e0 with ⟨t0, n0, f0⟩ | ⟨ci, fs⟩
  · exact g0.elim
  obtain ⟨rfl, gf⟩ := g0
  have z := all2_cons gf
  clear gf
  obtain ⟨v0, fs, rfl, q0, gf⟩ := z
  cases gT_r (τ := τ) (t := 0) (v := v0) rfl q0
  have z := all2_cons gf
  clear gf
  obtain ⟨v0, fs, rfl, q0, gf⟩ := z
  cases gT_r (τ := τ) (t := 1) (v := v0) rfl q0
  have z := all2_cons gf
  clear gf
  obtain ⟨v0, fs, rfl, q0, gf⟩ := z
  cases gT_r (τ := τ) (t := 2) (v := v0) rfl q0
  have z := all2_cons gf
  clear gf
  obtain ⟨v0, fs, rfl, q0, gf⟩ := z
  cases gT_r (τ := τ) (t := 3) (v := v0) rfl q0
  have z := all2_cons gf
  clear gf
  obtain ⟨v0, fs, rfl, q0, gf⟩ := z
  cases gT_r (τ := τ) (t := 4) (v := v0) rfl q0
  have z := all2_cons gf
  clear gf
  obtain ⟨v0, fs, rfl, q0, gf⟩ := z
  cases gT_r (τ := τ) (t := 5) (v := v0) rfl q0
  have z := all2_cons gf
  clear gf
  obtain ⟨v0, fs, rfl, q0, gf⟩ := z
  cases gT_r (τ := τ) (t := 6) (v := v0) rfl q0
  have z := all2_cons gf
  clear gf
  obtain ⟨v0, fs, rfl, q0, gf⟩ := z
  cases gT_r (τ := τ) (t := 7) (v := v0) rfl q0
  have z := all2_cons gf
  clear gf
  obtain ⟨v0, fs, rfl, q0, gf⟩ := z
  obtain ⟨M_stampMany, rfl, b_M_stampMany⟩ := q0
  have z := all2_cons gf
  clear gf
  obtain ⟨v0, fs, rfl, q0, gf⟩ := z
  cases (q0 : v0 = .inr (some (.inl 1)))
  have z := all2_cons gf
  clear gf
  obtain ⟨v0, fs, rfl, q0, gf⟩ := z
  obtain ⟨M_taped, rfl, b_M_taped⟩ := q0
  have z := all2_cons gf
  clear gf
  obtain ⟨v0, fs, rfl, q0, gf⟩ := z
  obtain ⟨M_place0, rfl, b_M_place0⟩ := q0
  have z := all2_cons gf
  clear gf
  obtain ⟨v0, fs, rfl, q0, gf⟩ := z
  obtain ⟨M_length0, rfl, b_M_length0⟩ := q0
  have z := all2_cons gf
  clear gf
  obtain ⟨v0, fs, rfl, q0, gf⟩ := z
  obtain ⟨M_fault, rfl, b_M_fault⟩ := q0
  have z := all2_cons gf
  clear gf
  obtain ⟨v0, fs, rfl, q0, gf⟩ := z
  obtain ⟨M_number0, rfl, b_M_number0⟩ := q0
  have z := all2_cons gf
  clear gf
  obtain ⟨v0, fs, rfl, q0, gf⟩ := z
  obtain ⟨M_open, rfl, b_M_open⟩ := q0
  have z := all2_cons gf
  clear gf
  obtain ⟨v0, fs, rfl, q0, gf⟩ := z
  obtain ⟨M_codeMany, rfl, b_M_codeMany⟩ := q0
  have z := all2_cons gf
  clear gf
  obtain ⟨v0, fs, rfl, q0, gf⟩ := z
  obtain ⟨M_waiting, rfl, b_M_waiting⟩ := q0
  have z := all2_cons gf
  clear gf
  obtain ⟨v0, fs, rfl, q0, gf⟩ := z
  obtain ⟨M_saidMany, rfl, b_M_saidMany⟩ := q0
  have z := all2_cons gf
  clear gf
  obtain ⟨v0, fs, rfl, q0, gf⟩ := z
  obtain ⟨M_clauses, rfl, e_M_clauses, b_M_clauses⟩ := gT_x (τ := τ) (t := 200) (v := v0) rfl q0
  have z := all2_cons gf
  clear gf
  obtain ⟨v0, fs, rfl, q0, gf⟩ := z
  cases gT_r (τ := τ) (t := 8) (v := v0) rfl q0
  have z := all2_cons gf
  clear gf
  obtain ⟨v0, fs, rfl, q0, gf⟩ := z
  cases gT_r (τ := τ) (t := 9) (v := v0) rfl q0
  have z := all2_cons gf
  clear gf
  obtain ⟨v0, fs, rfl, q0, gf⟩ := z
  cases gT_r (τ := τ) (t := 10) (v := v0) rfl q0
  have z := all2_cons gf
  clear gf
  obtain ⟨v0, fs, rfl, q0, gf⟩ := z
  cases gT_r (τ := τ) (t := 11) (v := v0) rfl q0
  have z := all2_cons gf
  clear gf
  obtain ⟨v0, fs, rfl, q0, gf⟩ := z
  cases gT_r (τ := τ) (t := 12) (v := v0) rfl q0
  have z := all2_cons gf
  clear gf
  obtain ⟨v0, fs, rfl, q0, gf⟩ := z
  cases gT_r (τ := τ) (t := 13) (v := v0) rfl q0
  have z := all2_cons gf
  clear gf
  obtain ⟨v0, fs, rfl, q0, gf⟩ := z
  cases gT_r (τ := τ) (t := 14) (v := v0) rfl q0
  have z := all2_cons gf
  clear gf
  obtain ⟨v0, fs, rfl, q0, gf⟩ := z
  cases gT_r (τ := τ) (t := 15) (v := v0) rfl q0
  have z := all2_cons gf
  clear gf
  obtain ⟨v0, fs, rfl, q0, gf⟩ := z
  cases gT_r (τ := τ) (t := 16) (v := v0) rfl q0
  have z := all2_cons gf
  clear gf
  obtain ⟨v0, fs, rfl, q0, gf⟩ := z
  cases gT_r (τ := τ) (t := 17) (v := v0) rfl q0
  have z := all2_cons gf
  clear gf
  obtain ⟨v0, fs, rfl, q0, gf⟩ := z
  cases gT_r (τ := τ) (t := 18) (v := v0) rfl q0
  have z := all2_cons gf
  clear gf
  obtain ⟨v0, fs, rfl, q0, gf⟩ := z
  cases gT_r (τ := τ) (t := 19) (v := v0) rfl q0
  have z := all2_cons gf
  clear gf
  obtain ⟨v0, fs, rfl, q0, gf⟩ := z
  cases gT_r (τ := τ) (t := 20) (v := v0) rfl q0
  have z := all2_cons gf
  clear gf
  obtain ⟨v0, fs, rfl, q0, gf⟩ := z
  cases gT_r (τ := τ) (t := 21) (v := v0) rfl q0
  have z := all2_cons gf
  clear gf
  obtain ⟨v0, fs, rfl, q0, gf⟩ := z
  cases gT_r (τ := τ) (t := 22) (v := v0) rfl q0
  have z := all2_cons gf
  clear gf
  obtain ⟨v0, fs, rfl, q0, gf⟩ := z
  cases gT_r (τ := τ) (t := 23) (v := v0) rfl q0
  have z := all2_cons gf
  clear gf
  obtain ⟨v0, fs, rfl, q0, gf⟩ := z
  cases gT_r (τ := τ) (t := 24) (v := v0) rfl q0
  have z := all2_cons gf
  clear gf
  obtain ⟨v0, fs, rfl, q0, gf⟩ := z
  obtain ⟨M_newMany, rfl, b_M_newMany⟩ := q0
  have z := all2_cons gf
  clear gf
  obtain ⟨v0, fs, rfl, q0, gf⟩ := z
  obtain ⟨M_rounds, rfl, b_M_rounds⟩ := q0
  have z := all2_cons gf
  clear gf
  obtain ⟨v0, fs, rfl, q0, gf⟩ := z
  obtain ⟨M_stampFrom, rfl, b_M_stampFrom⟩ := q0
  have z := all2_cons gf
  clear gf
  obtain ⟨v0, fs, rfl, q0, gf⟩ := z
  obtain ⟨M_stampTimes, rfl, b_M_stampTimes⟩ := q0
  have z := all2_cons gf
  clear gf
  obtain ⟨v0, fs, rfl, q0, gf⟩ := z
  obtain ⟨M_lines, rfl, b_M_lines⟩ := q0
  have z := all2_cons gf
  clear gf
  obtain ⟨v0, fs, rfl, q0, gf⟩ := z
  obtain ⟨M_spot0, rfl, b_M_spot0⟩ := q0
  have z := all2_cons gf
  clear gf
  obtain ⟨v0, fs, rfl, q0, gf⟩ := z
  obtain ⟨M_pullAcross, rfl, b_M_pullAcross⟩ := q0
  have z := all2_cons gf
  clear gf
  obtain ⟨v0, fs, rfl, q0, gf⟩ := z
  obtain ⟨M_pullAlong, rfl, b_M_pullAlong⟩ := q0
  have z := all2_cons gf
  clear gf
  obtain ⟨v0, fs, rfl, q0, gf⟩ := z
  obtain ⟨M_stepsNow, rfl, b_M_stepsNow⟩ := q0
  have z := all2_cons gf
  clear gf
  obtain ⟨v0, fs, rfl, q0, gf⟩ := z
  obtain ⟨M_fallenNow, rfl, b_M_fallenNow⟩ := q0
  have z := all2_cons gf
  clear gf
  obtain ⟨v0, fs, rfl, q0, gf⟩ := z
  cases gT_r (τ := τ) (t := 25) (v := v0) rfl q0
  have z := all2_cons gf
  clear gf
  obtain ⟨v0, fs, rfl, q0, gf⟩ := z
  cases gT_r (τ := τ) (t := 26) (v := v0) rfl q0
  have z := all2_cons gf
  clear gf
  obtain ⟨v0, fs, rfl, q0, gf⟩ := z
  cases gT_r (τ := τ) (t := 27) (v := v0) rfl q0
  have z := all2_cons gf
  clear gf
  obtain ⟨v0, fs, rfl, q0, gf⟩ := z
  cases gT_r (τ := τ) (t := 28) (v := v0) rfl q0
  have z := all2_cons gf
  clear gf
  obtain ⟨v0, fs, rfl, q0, gf⟩ := z
  cases gT_r (τ := τ) (t := 29) (v := v0) rfl q0
  have z := all2_cons gf
  clear gf
  obtain ⟨v0, fs, rfl, q0, gf⟩ := z
  obtain ⟨M_isKept, rfl, e_M_isKept, b_M_isKept⟩ := gT_x (τ := τ) (t := 201) (v := v0) rfl q0
  cases fs with
  | cons _ _ => exact gf.elim
  | nil =>
    have z := all2_cons hh
    clear hh
    obtain ⟨e1, h, rfl, g1, hh⟩ := z
    rcases e1 with ⟨t1, n1, M_tape⟩ | ⟨ci, fs⟩
    rotate_left
    · exact g1.elim
    obtain ⟨et, en, b_M_tape⟩ := g1
    cases (et : t1 = 1)
    cases en
    cases h with
    | cons _ _ => exact hh.elim
    | nil =>
      obtain ⟨s, hs, rfl⟩ := rng_n (x := M_taped) (k := 260) (by omega) (by omega)
      have es := sz_n (c := s) (by omega)
      obtain rfl : s = c := by omega
      obtain ⟨rF, eF⟩ := rg_x rfl b_M_tape
      refine (c_X12_feed hc).mono (fun r h' hp => ?_)
      obtain ⟨rfl, rfl⟩ := hp
      exact ⟨upL τ 251 (encA (fdR M_tape s a b d e f) 260), nI (s + 20), hΦ, fun t ht => upL_ne (ch_ne ht rfl), rfl, ⟨rfl, M_tape, eF, fun i hi => by rw [upL_at]; exact encA_ok hi⟩, ⟨⟨rfl, rfl, rfl, rfl, rfl, rfl, rfl, rfl, rfl, ⟨_, rfl, b_M_stampMany⟩, rfl, ⟨_, rfl, sz_n (by omega)⟩, ⟨_, rfl, b_M_place0⟩, ⟨_, rfl, b_M_length0⟩, ⟨_, rfl, b_M_fault⟩, ⟨_, rfl, b_M_number0⟩, ⟨_, rfl, b_M_open⟩, ⟨_, rfl, b_M_codeMany⟩, ⟨_, rfl, b_M_waiting⟩, ⟨_, rfl, b_M_saidMany⟩, gT_mk rfl e_M_clauses b_M_clauses, rfl, rfl, rfl, rfl, rfl, rfl, rfl, rfl, rfl, rfl, rfl, rfl, rfl, rfl, rfl, rfl, rfl, ⟨_, rfl, b_M_newMany⟩, ⟨_, rfl, b_M_rounds⟩, ⟨_, rfl, b_M_stampFrom⟩, ⟨_, rfl, b_M_stampTimes⟩, ⟨_, rfl, b_M_lines⟩, ⟨_, rfl, b_M_spot0⟩, ⟨_, rfl, b_M_pullAcross⟩, ⟨_, rfl, b_M_pullAlong⟩, ⟨_, rfl, b_M_stepsNow⟩, ⟨_, rfl, b_M_fallenNow⟩, rfl, rfl, rfl, rfl, rfl, gT_mk rfl e_M_isKept b_M_isKept, trivial⟩, ⟨rfl, rfl, of_x rfl (fdR_rg rF) (fun i hi => (encA_ok hi).symm)⟩, trivial⟩⟩

set_option maxRecDepth 100000 in
theorem n_feedR {l : Launch} {a b d e f : Int32} : conOkX (MetP l 1 yX12_feed cX12_feed 6 (some .int) 0 0) [a, b, d, e, f] HN_feedR HN_feedR (fun _ => false) (fun _ => True) (fun _ _ y => y = -1) := by
  intro τ hΦ hP h hh
  have z := all2_cons hh
  clear hh
  obtain ⟨e0, h, rfl, g0, hh⟩ := z
  rcases e0 with ⟨t0, n0, f0⟩ | ⟨ci, fs⟩
  · exact g0.elim
  obtain ⟨rfl, gf⟩ := g0
  have z := all2_cons gf
  clear gf
  obtain ⟨v0, fs, rfl, q0, gf⟩ := z
  cases gT_r (τ := τ) (t := 0) (v := v0) rfl q0
  have z := all2_cons gf
  clear gf
  obtain ⟨v0, fs, rfl, q0, gf⟩ := z
  cases gT_r (τ := τ) (t := 1) (v := v0) rfl q0
  have z := all2_cons gf
  clear gf
  obtain ⟨v0, fs, rfl, q0, gf⟩ := z
  cases gT_r (τ := τ) (t := 2) (v := v0) rfl q0
  have z := all2_cons gf
  clear gf
  obtain ⟨v0, fs, rfl, q0, gf⟩ := z
  cases gT_r (τ := τ) (t := 3) (v := v0) rfl q0
  have z := all2_cons gf
  clear gf
  obtain ⟨v0, fs, rfl, q0, gf⟩ := z
  cases gT_r (τ := τ) (t := 4) (v := v0) rfl q0
  have z := all2_cons gf
  clear gf
  obtain ⟨v0, fs, rfl, q0, gf⟩ := z
  cases gT_r (τ := τ) (t := 5) (v := v0) rfl q0
  have z := all2_cons gf
  clear gf
  obtain ⟨v0, fs, rfl, q0, gf⟩ := z
  cases gT_r (τ := τ) (t := 6) (v := v0) rfl q0
  have z := all2_cons gf
  clear gf
  obtain ⟨v0, fs, rfl, q0, gf⟩ := z
  cases gT_r (τ := τ) (t := 7) (v := v0) rfl q0
  have z := all2_cons gf
  clear gf
  obtain ⟨v0, fs, rfl, q0, gf⟩ := z
  obtain ⟨M_stampMany, rfl, b_M_stampMany⟩ := q0
  have z := all2_cons gf
  clear gf
  obtain ⟨v0, fs, rfl, q0, gf⟩ := z
  cases (q0 : v0 = .inr (some (.inl 1)))
  have z := all2_cons gf
  clear gf
  obtain ⟨v0, fs, rfl, q0, gf⟩ := z
  obtain ⟨M_taped, rfl, b_M_taped⟩ := q0
  have z := all2_cons gf
  clear gf
  obtain ⟨v0, fs, rfl, q0, gf⟩ := z
  obtain ⟨M_place0, rfl, b_M_place0⟩ := q0
  have z := all2_cons gf
  clear gf
  obtain ⟨v0, fs, rfl, q0, gf⟩ := z
  obtain ⟨M_length0, rfl, b_M_length0⟩ := q0
  have z := all2_cons gf
  clear gf
  obtain ⟨v0, fs, rfl, q0, gf⟩ := z
  obtain ⟨M_fault, rfl, b_M_fault⟩ := q0
  have z := all2_cons gf
  clear gf
  obtain ⟨v0, fs, rfl, q0, gf⟩ := z
  obtain ⟨M_number0, rfl, b_M_number0⟩ := q0
  have z := all2_cons gf
  clear gf
  obtain ⟨v0, fs, rfl, q0, gf⟩ := z
  obtain ⟨M_open, rfl, b_M_open⟩ := q0
  have z := all2_cons gf
  clear gf
  obtain ⟨v0, fs, rfl, q0, gf⟩ := z
  obtain ⟨M_codeMany, rfl, b_M_codeMany⟩ := q0
  have z := all2_cons gf
  clear gf
  obtain ⟨v0, fs, rfl, q0, gf⟩ := z
  obtain ⟨M_waiting, rfl, b_M_waiting⟩ := q0
  have z := all2_cons gf
  clear gf
  obtain ⟨v0, fs, rfl, q0, gf⟩ := z
  obtain ⟨M_saidMany, rfl, b_M_saidMany⟩ := q0
  have z := all2_cons gf
  clear gf
  obtain ⟨v0, fs, rfl, q0, gf⟩ := z
  obtain ⟨M_clauses, rfl, e_M_clauses, b_M_clauses⟩ := gT_x (τ := τ) (t := 200) (v := v0) rfl q0
  have z := all2_cons gf
  clear gf
  obtain ⟨v0, fs, rfl, q0, gf⟩ := z
  cases gT_r (τ := τ) (t := 8) (v := v0) rfl q0
  have z := all2_cons gf
  clear gf
  obtain ⟨v0, fs, rfl, q0, gf⟩ := z
  cases gT_r (τ := τ) (t := 9) (v := v0) rfl q0
  have z := all2_cons gf
  clear gf
  obtain ⟨v0, fs, rfl, q0, gf⟩ := z
  cases gT_r (τ := τ) (t := 10) (v := v0) rfl q0
  have z := all2_cons gf
  clear gf
  obtain ⟨v0, fs, rfl, q0, gf⟩ := z
  cases gT_r (τ := τ) (t := 11) (v := v0) rfl q0
  have z := all2_cons gf
  clear gf
  obtain ⟨v0, fs, rfl, q0, gf⟩ := z
  cases gT_r (τ := τ) (t := 12) (v := v0) rfl q0
  have z := all2_cons gf
  clear gf
  obtain ⟨v0, fs, rfl, q0, gf⟩ := z
  cases gT_r (τ := τ) (t := 13) (v := v0) rfl q0
  have z := all2_cons gf
  clear gf
  obtain ⟨v0, fs, rfl, q0, gf⟩ := z
  cases gT_r (τ := τ) (t := 14) (v := v0) rfl q0
  have z := all2_cons gf
  clear gf
  obtain ⟨v0, fs, rfl, q0, gf⟩ := z
  cases gT_r (τ := τ) (t := 15) (v := v0) rfl q0
  have z := all2_cons gf
  clear gf
  obtain ⟨v0, fs, rfl, q0, gf⟩ := z
  cases gT_r (τ := τ) (t := 16) (v := v0) rfl q0
  have z := all2_cons gf
  clear gf
  obtain ⟨v0, fs, rfl, q0, gf⟩ := z
  cases gT_r (τ := τ) (t := 17) (v := v0) rfl q0
  have z := all2_cons gf
  clear gf
  obtain ⟨v0, fs, rfl, q0, gf⟩ := z
  cases gT_r (τ := τ) (t := 18) (v := v0) rfl q0
  have z := all2_cons gf
  clear gf
  obtain ⟨v0, fs, rfl, q0, gf⟩ := z
  cases gT_r (τ := τ) (t := 19) (v := v0) rfl q0
  have z := all2_cons gf
  clear gf
  obtain ⟨v0, fs, rfl, q0, gf⟩ := z
  cases gT_r (τ := τ) (t := 20) (v := v0) rfl q0
  have z := all2_cons gf
  clear gf
  obtain ⟨v0, fs, rfl, q0, gf⟩ := z
  cases gT_r (τ := τ) (t := 21) (v := v0) rfl q0
  have z := all2_cons gf
  clear gf
  obtain ⟨v0, fs, rfl, q0, gf⟩ := z
  cases gT_r (τ := τ) (t := 22) (v := v0) rfl q0
  have z := all2_cons gf
  clear gf
  obtain ⟨v0, fs, rfl, q0, gf⟩ := z
  cases gT_r (τ := τ) (t := 23) (v := v0) rfl q0
  have z := all2_cons gf
  clear gf
  obtain ⟨v0, fs, rfl, q0, gf⟩ := z
  cases gT_r (τ := τ) (t := 24) (v := v0) rfl q0
  have z := all2_cons gf
  clear gf
  obtain ⟨v0, fs, rfl, q0, gf⟩ := z
  obtain ⟨M_newMany, rfl, b_M_newMany⟩ := q0
  have z := all2_cons gf
  clear gf
  obtain ⟨v0, fs, rfl, q0, gf⟩ := z
  obtain ⟨M_rounds, rfl, b_M_rounds⟩ := q0
  have z := all2_cons gf
  clear gf
  obtain ⟨v0, fs, rfl, q0, gf⟩ := z
  obtain ⟨M_stampFrom, rfl, b_M_stampFrom⟩ := q0
  have z := all2_cons gf
  clear gf
  obtain ⟨v0, fs, rfl, q0, gf⟩ := z
  obtain ⟨M_stampTimes, rfl, b_M_stampTimes⟩ := q0
  have z := all2_cons gf
  clear gf
  obtain ⟨v0, fs, rfl, q0, gf⟩ := z
  obtain ⟨M_lines, rfl, b_M_lines⟩ := q0
  have z := all2_cons gf
  clear gf
  obtain ⟨v0, fs, rfl, q0, gf⟩ := z
  obtain ⟨M_spot0, rfl, b_M_spot0⟩ := q0
  have z := all2_cons gf
  clear gf
  obtain ⟨v0, fs, rfl, q0, gf⟩ := z
  obtain ⟨M_pullAcross, rfl, b_M_pullAcross⟩ := q0
  have z := all2_cons gf
  clear gf
  obtain ⟨v0, fs, rfl, q0, gf⟩ := z
  obtain ⟨M_pullAlong, rfl, b_M_pullAlong⟩ := q0
  have z := all2_cons gf
  clear gf
  obtain ⟨v0, fs, rfl, q0, gf⟩ := z
  obtain ⟨M_stepsNow, rfl, b_M_stepsNow⟩ := q0
  have z := all2_cons gf
  clear gf
  obtain ⟨v0, fs, rfl, q0, gf⟩ := z
  obtain ⟨M_fallenNow, rfl, b_M_fallenNow⟩ := q0
  have z := all2_cons gf
  clear gf
  obtain ⟨v0, fs, rfl, q0, gf⟩ := z
  cases gT_r (τ := τ) (t := 25) (v := v0) rfl q0
  have z := all2_cons gf
  clear gf
  obtain ⟨v0, fs, rfl, q0, gf⟩ := z
  cases gT_r (τ := τ) (t := 26) (v := v0) rfl q0
  have z := all2_cons gf
  clear gf
  obtain ⟨v0, fs, rfl, q0, gf⟩ := z
  cases gT_r (τ := τ) (t := 27) (v := v0) rfl q0
  have z := all2_cons gf
  clear gf
  obtain ⟨v0, fs, rfl, q0, gf⟩ := z
  cases gT_r (τ := τ) (t := 28) (v := v0) rfl q0
  have z := all2_cons gf
  clear gf
  obtain ⟨v0, fs, rfl, q0, gf⟩ := z
  cases gT_r (τ := τ) (t := 29) (v := v0) rfl q0
  have z := all2_cons gf
  clear gf
  obtain ⟨v0, fs, rfl, q0, gf⟩ := z
  obtain ⟨M_isKept, rfl, e_M_isKept, b_M_isKept⟩ := gT_x (τ := τ) (t := 201) (v := v0) rfl q0
  cases fs with
  | cons _ _ => exact gf.elim
  | nil =>
    have z := all2_cons hh
    clear hh
    obtain ⟨e1, h, rfl, g1, hh⟩ := z
    rcases e1 with ⟨t1, n1, M_tape⟩ | ⟨ci, fs⟩
    rotate_left
    · exact g1.elim
    obtain ⟨et, en, b_M_tape⟩ := g1
    cases (et : t1 = 1)
    cases en
    cases h with
    | cons _ _ => exact hh.elim
    | nil =>
      obtain rfl : M_taped = nI 260 := i32eq.mpr (show M_taped.toInt = 260 by omega)
      refine n_X12_feed.mono (fun r h' hp => ?_)
      obtain ⟨rfl, rfl⟩ := hp
      exact ⟨τ, -1, hΦ, fun _ _ => rfl, rfl, rfl, ⟨⟨rfl, rfl, rfl, rfl, rfl, rfl, rfl, rfl, rfl, ⟨_, rfl, b_M_stampMany⟩, rfl, ⟨_, rfl, b_M_taped⟩, ⟨_, rfl, b_M_place0⟩, ⟨_, rfl, b_M_length0⟩, ⟨_, rfl, b_M_fault⟩, ⟨_, rfl, b_M_number0⟩, ⟨_, rfl, b_M_open⟩, ⟨_, rfl, b_M_codeMany⟩, ⟨_, rfl, b_M_waiting⟩, ⟨_, rfl, b_M_saidMany⟩, gT_mk rfl e_M_clauses b_M_clauses, rfl, rfl, rfl, rfl, rfl, rfl, rfl, rfl, rfl, rfl, rfl, rfl, rfl, rfl, rfl, rfl, rfl, ⟨_, rfl, b_M_newMany⟩, ⟨_, rfl, b_M_rounds⟩, ⟨_, rfl, b_M_stampFrom⟩, ⟨_, rfl, b_M_stampTimes⟩, ⟨_, rfl, b_M_lines⟩, ⟨_, rfl, b_M_spot0⟩, ⟨_, rfl, b_M_pullAcross⟩, ⟨_, rfl, b_M_pullAlong⟩, ⟨_, rfl, b_M_stepsNow⟩, ⟨_, rfl, b_M_fallenNow⟩, rfl, rfl, rfl, rfl, rfl, gT_mk rfl e_M_isKept b_M_isKept, trivial⟩, ⟨rfl, rfl, b_M_tape⟩, trivial⟩⟩

def HX_mintC : List AC := hc_3ae6b13644
theorem ch_3 {t : Nat} (h : (Nat.ble 100 t && (Nat.beq t 203 || (Nat.beq t 252 || Nat.beq t 253))) = false) : t ≠ 203 ∧ t ≠ 252 ∧ t ≠ 253 := ⟨fun z => (by subst z; cases h), fun z => (by subst z; cases h), fun z => (by subst z; cases h)⟩
set_option maxRecDepth 100000 in
theorem x_mintC {l : Launch} {m x y : Nat} (hm : m < 8) (hx : x ≤ 23) (hy : y ≤ 15) : conOkX (MetP l 2 yX11_mint cX11_mint 4 (some .boolean) 0 0) [nI m, nI x, nI y] HX_mintC HX_mintC (fun t => Nat.beq t 203 || (Nat.beq t 252 || Nat.beq t 253)) (fun _ => True) (fun τ τ' _ => ∃ FX FY : Nat → Int32, (∀ i, i < 8 → FX i = decA (τ 252) i) ∧ (∀ i, i < 8 → FY i = decA (τ 253) i) ∧ (∀ i, i < 8 → decA (τ' 252) i = upd FX m (nI x) i) ∧ (∀ i, i < 8 → decA (τ' 253) i = upd FY m (nI y) i) ∧ decA (τ' 203) 0 = f_or (decA (τ 203) 0) (f_shl 1 (nI m))) := by
  intro τ hΦ hP h hh
  have z := all2_cons hh
  clear hh
  obtain ⟨e0, h, rfl, g0, hh⟩ := z
  rcases e0 with ⟨t0, n0, f0⟩ | ⟨ci, fs⟩
  · exact g0.elim
  obtain ⟨rfl, gf⟩ := g0
  have z := all2_cons gf
  clear gf
  obtain ⟨v0, fs, rfl, q0, gf⟩ := z
  cases gT_r (τ := τ) (t := 0) (v := v0) rfl q0
  have z := all2_cons gf
  clear gf
  obtain ⟨v0, fs, rfl, q0, gf⟩ := z
  cases (q0 : v0 = .inr (some (.inl 1)))
  have z := all2_cons gf
  clear gf
  obtain ⟨v0, fs, rfl, q0, gf⟩ := z
  cases gT_r (τ := τ) (t := 1) (v := v0) rfl q0
  have z := all2_cons gf
  clear gf
  obtain ⟨v0, fs, rfl, q0, gf⟩ := z
  cases gT_r (τ := τ) (t := 2) (v := v0) rfl q0
  have z := all2_cons gf
  clear gf
  obtain ⟨v0, fs, rfl, q0, gf⟩ := z
  cases gT_r (τ := τ) (t := 3) (v := v0) rfl q0
  have z := all2_cons gf
  clear gf
  obtain ⟨v0, fs, rfl, q0, gf⟩ := z
  cases gT_r (τ := τ) (t := 4) (v := v0) rfl q0
  have z := all2_cons gf
  clear gf
  obtain ⟨v0, fs, rfl, q0, gf⟩ := z
  cases gT_r (τ := τ) (t := 5) (v := v0) rfl q0
  have z := all2_cons gf
  clear gf
  obtain ⟨v0, fs, rfl, q0, gf⟩ := z
  cases gT_r (τ := τ) (t := 6) (v := v0) rfl q0
  have z := all2_cons gf
  clear gf
  obtain ⟨v0, fs, rfl, q0, gf⟩ := z
  cases gT_r (τ := τ) (t := 7) (v := v0) rfl q0
  have z := all2_cons gf
  clear gf
  obtain ⟨v0, fs, rfl, q0, gf⟩ := z
  cases gT_r (τ := τ) (t := 8) (v := v0) rfl q0
  have z := all2_cons gf
  clear gf
  obtain ⟨v0, fs, rfl, q0, gf⟩ := z
  cases gT_r (τ := τ) (t := 9) (v := v0) rfl q0
  have z := all2_cons gf
  clear gf
  obtain ⟨v0, fs, rfl, q0, gf⟩ := z
  cases gT_r (τ := τ) (t := 10) (v := v0) rfl q0
  have z := all2_cons gf
  clear gf
  obtain ⟨v0, fs, rfl, q0, gf⟩ := z
  cases gT_r (τ := τ) (t := 11) (v := v0) rfl q0
  have z := all2_cons gf
  clear gf
  obtain ⟨v0, fs, rfl, q0, gf⟩ := z
  cases gT_r (τ := τ) (t := 12) (v := v0) rfl q0
  have z := all2_cons gf
  clear gf
  obtain ⟨v0, fs, rfl, q0, gf⟩ := z
  obtain ⟨HS_wasKept, rfl, e_HS_wasKept, b_HS_wasKept⟩ := gT_x (τ := τ) (t := 201) (v := v0) rfl q0
  cases fs with
  | cons _ _ => exact gf.elim
  | nil =>
    have z := all2_cons hh
    clear hh
    obtain ⟨e0, h, rfl, g0, hh⟩ := z
    rcases e0 with ⟨t0, n0, f0⟩ | ⟨ci, fs⟩
    · exact g0.elim
    obtain ⟨rfl, gf⟩ := g0
    have z := all2_cons gf
    clear gf
    obtain ⟨v0, fs, rfl, q0, gf⟩ := z
    cases (q0 : v0 = .inr (some (.inl 2)))
    have z := all2_cons gf
    clear gf
    obtain ⟨v0, fs, rfl, q0, gf⟩ := z
    cases (q0 : v0 = .inr (some (.inl 3)))
    have z := all2_cons gf
    clear gf
    obtain ⟨v0, fs, rfl, q0, gf⟩ := z
    cases (q0 : v0 = .inr (some (.inl 4)))
    have z := all2_cons gf
    clear gf
    obtain ⟨v0, fs, rfl, q0, gf⟩ := z
    cases (q0 : v0 = .inr (some (.inl 5)))
    have z := all2_cons gf
    clear gf
    obtain ⟨v0, fs, rfl, q0, gf⟩ := z
    cases (q0 : v0 = .inr (some (.inl 6)))
    have z := all2_cons gf
    clear gf
    obtain ⟨v0, fs, rfl, q0, gf⟩ := z
    obtain ⟨Rep_toldMints, rfl, e_Rep_toldMints, b_Rep_toldMints⟩ := gT_x (τ := τ) (t := 203) (v := v0) rfl q0
    have z := all2_cons gf
    clear gf
    obtain ⟨v0, fs, rfl, q0, gf⟩ := z
    obtain ⟨Rep_walls, rfl, b_Rep_walls⟩ := q0
    have z := all2_cons gf
    clear gf
    obtain ⟨v0, fs, rfl, q0, gf⟩ := z
    obtain ⟨Rep_stamps, rfl, b_Rep_stamps⟩ := q0
    cases fs with
    | cons _ _ => exact gf.elim
    | nil =>
      have z := all2_cons hh
      clear hh
      obtain ⟨e1, h, rfl, g1, hh⟩ := z
      rcases e1 with ⟨t1, n1, Rep_mintX⟩ | ⟨ci, fs⟩
      rotate_left
      · exact g1.elim
      obtain ⟨et, en, b_Rep_mintX⟩ := g1
      cases (et : t1 = 0)
      cases en
      have z := all2_cons hh
      clear hh
      obtain ⟨e1, h, rfl, g1, hh⟩ := z
      rcases e1 with ⟨t1, n1, Rep_mintY⟩ | ⟨ci, fs⟩
      rotate_left
      · exact g1.elim
      obtain ⟨et, en, b_Rep_mintY⟩ := g1
      cases (et : t1 = 0)
      cases en
      have z := all2_cons hh
      clear hh
      obtain ⟨e1, h, rfl, g1, hh⟩ := z
      rcases e1 with ⟨t1, n1, Rep_wall⟩ | ⟨ci, fs⟩
      rotate_left
      · exact g1.elim
      obtain ⟨et, en, b_Rep_wall⟩ := g1
      cases (et : t1 = 2)
      cases en
      have z := all2_cons hh
      clear hh
      obtain ⟨e1, h, rfl, g1, hh⟩ := z
      rcases e1 with ⟨t1, n1, Rep_mintOf⟩ | ⟨ci, fs⟩
      rotate_left
      · exact g1.elim
      obtain ⟨et, en, b_Rep_mintOf⟩ := g1
      cases (et : t1 = 0)
      cases en
      have z := all2_cons hh
      clear hh
      obtain ⟨e1, h, rfl, g1, hh⟩ := z
      rcases e1 with ⟨t1, n1, Rep_grainsOf⟩ | ⟨ci, fs⟩
      rotate_left
      · exact g1.elim
      obtain ⟨et, en, b_Rep_grainsOf⟩ := g1
      cases (et : t1 = 0)
      cases en
      cases h with
      | cons _ _ => exact hh.elim
      | nil =>
        obtain ⟨rX, eX⟩ := rg_x rfl b_Rep_mintX
        obtain ⟨rY, eY⟩ := rg_x rfl b_Rep_mintY
        refine (c_X11_mint hm hx hy).mono (fun r h' hp => ?_)
        obtain ⟨rfl, rfl⟩ := hp
        exact ⟨upL (upL (upL τ 252 (encA (upd Rep_mintX m (nI x)) 8)) 253 (encA (upd Rep_mintY m (nI y)) 8)) 203 [some (natOf (f_or Rep_toldMints (f_shl 1 (nI m))))], 1, hΦ, fun t ht => (upL_ne (ch_3 ht).1).trans ((upL_ne (ch_3 ht).2.2).trans (upL_ne (ch_3 ht).2.1)), rfl, ⟨Rep_mintX, Rep_mintY, eX, eY, fun i hi => encA_ok hi, fun i hi => encA_ok hi, (natOf_ok _).trans (by rw [e_Rep_toldMints])⟩, ⟨⟨rfl, rfl, rfl, rfl, rfl, rfl, rfl, rfl, rfl, rfl, rfl, rfl, rfl, rfl, rfl, gT_mk rfl e_HS_wasKept b_HS_wasKept, trivial⟩, ⟨rfl, rfl, rfl, rfl, rfl, rfl, gT_mk (t := 203) rfl (natOf_ok _).symm ⟨i32lo _, i32hi _⟩, ⟨_, rfl, b_Rep_walls⟩, ⟨_, rfl, b_Rep_stamps⟩, trivial⟩, ⟨rfl, rfl, of_x rfl (fun i _ => ⟨i32lo _, i32hi _⟩) (fun i hi => (encA_ok hi).symm)⟩, ⟨rfl, rfl, of_x rfl (fun i _ => ⟨i32lo _, i32hi _⟩) (fun i hi => (encA_ok hi).symm)⟩, ⟨rfl, rfl, b_Rep_wall⟩, ⟨rfl, rfl, b_Rep_mintOf⟩, ⟨rfl, rfl, b_Rep_grainsOf⟩, trivial⟩⟩

def HX_mintR : List AC := hc_f7714c99f6
theorem rgx_upd {n : Nat} {lo hi : Int} {f : Nat → Int32} {k : Nat} {v : Int32} (h : ∀ i, i < n → lo ≤ (f i).toInt ∧ (f i).toInt ≤ hi) (hv : lo ≤ v.toInt ∧ v.toInt ≤ hi) : ∀ i, i < n → lo ≤ (upd f k v i).toInt ∧ (upd f k v i).toInt ≤ hi := fun i hi => by
  unfold upd
  split
  · exact hv
  · exact h i hi
set_option maxRecDepth 100000 in
theorem x_mintR {l : Launch} {m x y : Nat} (hm : m < 8) (hx : x ≤ 23) (hy : y ≤ 15) : conOkX (MetP l 1 yX12_mint cX12_mint 4 (some .boolean) 0 0) [nI m, nI x, nI y] HX_mintR HX_mintR (fun t => Nat.beq t 254) (fun _ => True) (fun τ τ' _ => ∃ FA : Nat → Int32, (∀ i, i < 8 → FA i = decA (τ 254) i) ∧ (∀ i, i < 8 → decA (τ' 254) i = upd FA m (nI (24 * y + x)) i)) := by
  intro τ hΦ hP h hh
  have z := all2_cons hh
  clear hh
  obtain ⟨e0, h, rfl, g0, hh⟩ := z
  rcases e0 with ⟨t0, n0, f0⟩ | ⟨ci, fs⟩
  · exact g0.elim
  obtain ⟨rfl, gf⟩ := g0
  have z := all2_cons gf
  clear gf
  obtain ⟨v0, fs, rfl, q0, gf⟩ := z
  cases gT_r (τ := τ) (t := 0) (v := v0) rfl q0
  have z := all2_cons gf
  clear gf
  obtain ⟨v0, fs, rfl, q0, gf⟩ := z
  cases gT_r (τ := τ) (t := 1) (v := v0) rfl q0
  have z := all2_cons gf
  clear gf
  obtain ⟨v0, fs, rfl, q0, gf⟩ := z
  cases gT_r (τ := τ) (t := 2) (v := v0) rfl q0
  have z := all2_cons gf
  clear gf
  obtain ⟨v0, fs, rfl, q0, gf⟩ := z
  cases (q0 : v0 = .inr (some (.inl 1)))
  have z := all2_cons gf
  clear gf
  obtain ⟨v0, fs, rfl, q0, gf⟩ := z
  cases gT_r (τ := τ) (t := 3) (v := v0) rfl q0
  have z := all2_cons gf
  clear gf
  obtain ⟨v0, fs, rfl, q0, gf⟩ := z
  cases gT_r (τ := τ) (t := 4) (v := v0) rfl q0
  have z := all2_cons gf
  clear gf
  obtain ⟨v0, fs, rfl, q0, gf⟩ := z
  cases gT_r (τ := τ) (t := 5) (v := v0) rfl q0
  have z := all2_cons gf
  clear gf
  obtain ⟨v0, fs, rfl, q0, gf⟩ := z
  cases gT_r (τ := τ) (t := 6) (v := v0) rfl q0
  have z := all2_cons gf
  clear gf
  obtain ⟨v0, fs, rfl, q0, gf⟩ := z
  obtain ⟨M_stampMany, rfl, b_M_stampMany⟩ := q0
  have z := all2_cons gf
  clear gf
  obtain ⟨v0, fs, rfl, q0, gf⟩ := z
  cases gT_r (τ := τ) (t := 7) (v := v0) rfl q0
  have z := all2_cons gf
  clear gf
  obtain ⟨v0, fs, rfl, q0, gf⟩ := z
  obtain ⟨M_taped, rfl, e_M_taped, b_M_taped⟩ := gT_x (τ := τ) (t := 202) (v := v0) rfl q0
  have z := all2_cons gf
  clear gf
  obtain ⟨v0, fs, rfl, q0, gf⟩ := z
  obtain ⟨M_place0, rfl, b_M_place0⟩ := q0
  have z := all2_cons gf
  clear gf
  obtain ⟨v0, fs, rfl, q0, gf⟩ := z
  obtain ⟨M_length0, rfl, b_M_length0⟩ := q0
  have z := all2_cons gf
  clear gf
  obtain ⟨v0, fs, rfl, q0, gf⟩ := z
  obtain ⟨M_fault, rfl, b_M_fault⟩ := q0
  have z := all2_cons gf
  clear gf
  obtain ⟨v0, fs, rfl, q0, gf⟩ := z
  obtain ⟨M_number0, rfl, b_M_number0⟩ := q0
  have z := all2_cons gf
  clear gf
  obtain ⟨v0, fs, rfl, q0, gf⟩ := z
  obtain ⟨M_open, rfl, b_M_open⟩ := q0
  have z := all2_cons gf
  clear gf
  obtain ⟨v0, fs, rfl, q0, gf⟩ := z
  obtain ⟨M_codeMany, rfl, b_M_codeMany⟩ := q0
  have z := all2_cons gf
  clear gf
  obtain ⟨v0, fs, rfl, q0, gf⟩ := z
  obtain ⟨M_waiting, rfl, b_M_waiting⟩ := q0
  have z := all2_cons gf
  clear gf
  obtain ⟨v0, fs, rfl, q0, gf⟩ := z
  obtain ⟨M_saidMany, rfl, b_M_saidMany⟩ := q0
  have z := all2_cons gf
  clear gf
  obtain ⟨v0, fs, rfl, q0, gf⟩ := z
  obtain ⟨M_clauses, rfl, e_M_clauses, b_M_clauses⟩ := gT_x (τ := τ) (t := 200) (v := v0) rfl q0
  have z := all2_cons gf
  clear gf
  obtain ⟨v0, fs, rfl, q0, gf⟩ := z
  cases gT_r (τ := τ) (t := 8) (v := v0) rfl q0
  have z := all2_cons gf
  clear gf
  obtain ⟨v0, fs, rfl, q0, gf⟩ := z
  cases gT_r (τ := τ) (t := 9) (v := v0) rfl q0
  have z := all2_cons gf
  clear gf
  obtain ⟨v0, fs, rfl, q0, gf⟩ := z
  cases gT_r (τ := τ) (t := 10) (v := v0) rfl q0
  have z := all2_cons gf
  clear gf
  obtain ⟨v0, fs, rfl, q0, gf⟩ := z
  cases gT_r (τ := τ) (t := 11) (v := v0) rfl q0
  have z := all2_cons gf
  clear gf
  obtain ⟨v0, fs, rfl, q0, gf⟩ := z
  cases gT_r (τ := τ) (t := 12) (v := v0) rfl q0
  have z := all2_cons gf
  clear gf
  obtain ⟨v0, fs, rfl, q0, gf⟩ := z
  cases gT_r (τ := τ) (t := 13) (v := v0) rfl q0
  have z := all2_cons gf
  clear gf
  obtain ⟨v0, fs, rfl, q0, gf⟩ := z
  cases gT_r (τ := τ) (t := 14) (v := v0) rfl q0
  have z := all2_cons gf
  clear gf
  obtain ⟨v0, fs, rfl, q0, gf⟩ := z
  cases gT_r (τ := τ) (t := 15) (v := v0) rfl q0
  have z := all2_cons gf
  clear gf
  obtain ⟨v0, fs, rfl, q0, gf⟩ := z
  cases gT_r (τ := τ) (t := 16) (v := v0) rfl q0
  have z := all2_cons gf
  clear gf
  obtain ⟨v0, fs, rfl, q0, gf⟩ := z
  cases gT_r (τ := τ) (t := 17) (v := v0) rfl q0
  have z := all2_cons gf
  clear gf
  obtain ⟨v0, fs, rfl, q0, gf⟩ := z
  cases gT_r (τ := τ) (t := 18) (v := v0) rfl q0
  have z := all2_cons gf
  clear gf
  obtain ⟨v0, fs, rfl, q0, gf⟩ := z
  cases gT_r (τ := τ) (t := 19) (v := v0) rfl q0
  have z := all2_cons gf
  clear gf
  obtain ⟨v0, fs, rfl, q0, gf⟩ := z
  cases gT_r (τ := τ) (t := 20) (v := v0) rfl q0
  have z := all2_cons gf
  clear gf
  obtain ⟨v0, fs, rfl, q0, gf⟩ := z
  cases gT_r (τ := τ) (t := 21) (v := v0) rfl q0
  have z := all2_cons gf
  clear gf
  obtain ⟨v0, fs, rfl, q0, gf⟩ := z
  cases gT_r (τ := τ) (t := 22) (v := v0) rfl q0
  have z := all2_cons gf
  clear gf
  obtain ⟨v0, fs, rfl, q0, gf⟩ := z
  cases gT_r (τ := τ) (t := 23) (v := v0) rfl q0
  have z := all2_cons gf
  clear gf
  obtain ⟨v0, fs, rfl, q0, gf⟩ := z
  cases gT_r (τ := τ) (t := 24) (v := v0) rfl q0
  have z := all2_cons gf
  clear gf
  obtain ⟨v0, fs, rfl, q0, gf⟩ := z
  obtain ⟨M_newMany, rfl, b_M_newMany⟩ := q0
  have z := all2_cons gf
  clear gf
  obtain ⟨v0, fs, rfl, q0, gf⟩ := z
  obtain ⟨M_rounds, rfl, b_M_rounds⟩ := q0
  have z := all2_cons gf
  clear gf
  obtain ⟨v0, fs, rfl, q0, gf⟩ := z
  obtain ⟨M_stampFrom, rfl, b_M_stampFrom⟩ := q0
  have z := all2_cons gf
  clear gf
  obtain ⟨v0, fs, rfl, q0, gf⟩ := z
  obtain ⟨M_stampTimes, rfl, b_M_stampTimes⟩ := q0
  have z := all2_cons gf
  clear gf
  obtain ⟨v0, fs, rfl, q0, gf⟩ := z
  obtain ⟨M_lines, rfl, b_M_lines⟩ := q0
  have z := all2_cons gf
  clear gf
  obtain ⟨v0, fs, rfl, q0, gf⟩ := z
  obtain ⟨M_spot0, rfl, b_M_spot0⟩ := q0
  have z := all2_cons gf
  clear gf
  obtain ⟨v0, fs, rfl, q0, gf⟩ := z
  obtain ⟨M_pullAcross, rfl, b_M_pullAcross⟩ := q0
  have z := all2_cons gf
  clear gf
  obtain ⟨v0, fs, rfl, q0, gf⟩ := z
  obtain ⟨M_pullAlong, rfl, b_M_pullAlong⟩ := q0
  have z := all2_cons gf
  clear gf
  obtain ⟨v0, fs, rfl, q0, gf⟩ := z
  obtain ⟨M_stepsNow, rfl, b_M_stepsNow⟩ := q0
  have z := all2_cons gf
  clear gf
  obtain ⟨v0, fs, rfl, q0, gf⟩ := z
  obtain ⟨M_fallenNow, rfl, b_M_fallenNow⟩ := q0
  have z := all2_cons gf
  clear gf
  obtain ⟨v0, fs, rfl, q0, gf⟩ := z
  cases gT_r (τ := τ) (t := 25) (v := v0) rfl q0
  have z := all2_cons gf
  clear gf
  obtain ⟨v0, fs, rfl, q0, gf⟩ := z
  cases gT_r (τ := τ) (t := 26) (v := v0) rfl q0
  have z := all2_cons gf
  clear gf
  obtain ⟨v0, fs, rfl, q0, gf⟩ := z
  cases gT_r (τ := τ) (t := 27) (v := v0) rfl q0
  have z := all2_cons gf
  clear gf
  obtain ⟨v0, fs, rfl, q0, gf⟩ := z
  cases gT_r (τ := τ) (t := 28) (v := v0) rfl q0
  have z := all2_cons gf
  clear gf
  obtain ⟨v0, fs, rfl, q0, gf⟩ := z
  cases gT_r (τ := τ) (t := 29) (v := v0) rfl q0
  have z := all2_cons gf
  clear gf
  obtain ⟨v0, fs, rfl, q0, gf⟩ := z
  obtain ⟨M_isKept, rfl, e_M_isKept, b_M_isKept⟩ := gT_x (τ := τ) (t := 201) (v := v0) rfl q0
  cases fs with
  | cons _ _ => exact gf.elim
  | nil =>
    have z := all2_cons hh
    clear hh
    obtain ⟨e1, h, rfl, g1, hh⟩ := z
    rcases e1 with ⟨t1, n1, M_mintAt⟩ | ⟨ci, fs⟩
    rotate_left
    · exact g1.elim
    obtain ⟨et, en, b_M_mintAt⟩ := g1
    cases (et : t1 = 0)
    cases en
    cases h with
    | cons _ _ => exact hh.elim
    | nil =>
      obtain ⟨rA, eA⟩ := rg_x rfl b_M_mintAt
      refine (c_X12_mint hm hx hy).mono (fun r h' hp => ?_)
      obtain ⟨rfl, rfl⟩ := hp
      exact ⟨upL τ 254 (encA (upd M_mintAt m (nI (24 * y + x))) 8), 1, hΦ, fun t ht => upL_ne (ch_ne ht rfl), rfl, ⟨M_mintAt, eA, fun i hi => encA_ok hi⟩, ⟨⟨rfl, rfl, rfl, rfl, rfl, rfl, rfl, rfl, rfl, ⟨_, rfl, b_M_stampMany⟩, rfl, gT_mk rfl e_M_taped b_M_taped, ⟨_, rfl, b_M_place0⟩, ⟨_, rfl, b_M_length0⟩, ⟨_, rfl, b_M_fault⟩, ⟨_, rfl, b_M_number0⟩, ⟨_, rfl, b_M_open⟩, ⟨_, rfl, b_M_codeMany⟩, ⟨_, rfl, b_M_waiting⟩, ⟨_, rfl, b_M_saidMany⟩, gT_mk rfl e_M_clauses b_M_clauses, rfl, rfl, rfl, rfl, rfl, rfl, rfl, rfl, rfl, rfl, rfl, rfl, rfl, rfl, rfl, rfl, rfl, ⟨_, rfl, b_M_newMany⟩, ⟨_, rfl, b_M_rounds⟩, ⟨_, rfl, b_M_stampFrom⟩, ⟨_, rfl, b_M_stampTimes⟩, ⟨_, rfl, b_M_lines⟩, ⟨_, rfl, b_M_spot0⟩, ⟨_, rfl, b_M_pullAcross⟩, ⟨_, rfl, b_M_pullAlong⟩, ⟨_, rfl, b_M_stepsNow⟩, ⟨_, rfl, b_M_fallenNow⟩, rfl, rfl, rfl, rfl, rfl, gT_mk rfl e_M_isKept b_M_isKept, trivial⟩, ⟨rfl, rfl, of_x rfl (rgx_upd rA (by rw [nI_toInt (by omega)]; omega)) (fun i hi => (encA_ok hi).symm)⟩, trivial⟩⟩

def HX_printed20C : List AC := hc_243db30452
def HY_printed20C : List AC := hc_2f628bb91b
set_option maxRecDepth 100000 in
theorem x_printed20C {l : Launch} {n : Nat} (h1 : 1 ≤ n ∧ n ≤ 6) : conOkX (MetP l 3 yX11_printed cX11_printed 4 (some .int) 0 0) [nI n] HX_printed20C HY_printed20C (fun _ => false) (fun τ => ∃ T, T < 256 ∧ decA (τ 203) 0 = nI T ∧ ∀ m, m < 8 → T.testBit m = true → ∃ x y, x ≤ 23 ∧ y ≤ 15 ∧ decA (τ 252) m = nI x ∧ decA (τ 253) m = nI y) (fun τ _ y => ∃ T, T < 256 ∧ decA (τ 203) 0 = nI T ∧ y = nI (prF (prC (ob (decA (τ 250))) n T (decA (τ 252)) (decA (τ 253))) 8)) := by
  intro τ hΦ hP h hh
  have z := all2_cons hh
  clear hh
  obtain ⟨e0, h, rfl, g0, hh⟩ := z
  rcases e0 with ⟨t0, n0, f0⟩ | ⟨ci, fs⟩
  · exact g0.elim
  obtain ⟨rfl, gf⟩ := g0
  have z := all2_cons gf
  clear gf
  obtain ⟨v0, fs, rfl, q0, gf⟩ := z
  cases (q0 : v0 = .inr (some (.inl 1)))
  have z := all2_cons gf
  clear gf
  obtain ⟨v0, fs, rfl, q0, gf⟩ := z
  cases (q0 : v0 = .inr (some (.inl 3)))
  have z := all2_cons gf
  clear gf
  obtain ⟨v0, fs, rfl, q0, gf⟩ := z
  cases gT_r (τ := τ) (t := 0) (v := v0) rfl q0
  have z := all2_cons gf
  clear gf
  obtain ⟨v0, fs, rfl, q0, gf⟩ := z
  cases gT_r (τ := τ) (t := 1) (v := v0) rfl q0
  have z := all2_cons gf
  clear gf
  obtain ⟨v0, fs, rfl, q0, gf⟩ := z
  cases gT_r (τ := τ) (t := 2) (v := v0) rfl q0
  have z := all2_cons gf
  clear gf
  obtain ⟨v0, fs, rfl, q0, gf⟩ := z
  cases gT_r (τ := τ) (t := 3) (v := v0) rfl q0
  have z := all2_cons gf
  clear gf
  obtain ⟨v0, fs, rfl, q0, gf⟩ := z
  cases gT_r (τ := τ) (t := 4) (v := v0) rfl q0
  have z := all2_cons gf
  clear gf
  obtain ⟨v0, fs, rfl, q0, gf⟩ := z
  cases gT_r (τ := τ) (t := 5) (v := v0) rfl q0
  have z := all2_cons gf
  clear gf
  obtain ⟨v0, fs, rfl, q0, gf⟩ := z
  cases gT_r (τ := τ) (t := 6) (v := v0) rfl q0
  have z := all2_cons gf
  clear gf
  obtain ⟨v0, fs, rfl, q0, gf⟩ := z
  cases gT_r (τ := τ) (t := 7) (v := v0) rfl q0
  have z := all2_cons gf
  clear gf
  obtain ⟨v0, fs, rfl, q0, gf⟩ := z
  cases gT_r (τ := τ) (t := 8) (v := v0) rfl q0
  have z := all2_cons gf
  clear gf
  obtain ⟨v0, fs, rfl, q0, gf⟩ := z
  cases gT_r (τ := τ) (t := 9) (v := v0) rfl q0
  have z := all2_cons gf
  clear gf
  obtain ⟨v0, fs, rfl, q0, gf⟩ := z
  cases gT_r (τ := τ) (t := 10) (v := v0) rfl q0
  have z := all2_cons gf
  clear gf
  obtain ⟨v0, fs, rfl, q0, gf⟩ := z
  cases gT_r (τ := τ) (t := 11) (v := v0) rfl q0
  have z := all2_cons gf
  clear gf
  obtain ⟨v0, fs, rfl, q0, gf⟩ := z
  obtain ⟨HS_wasKept, rfl, e_HS_wasKept, b_HS_wasKept⟩ := gT_x (τ := τ) (t := 201) (v := v0) rfl q0
  cases fs with
  | cons _ _ => exact gf.elim
  | nil =>
    have z := all2_cons hh
    clear hh
    obtain ⟨e0, h, rfl, g0, hh⟩ := z
    rcases e0 with ⟨t0, n0, f0⟩ | ⟨ci, fs⟩
    · exact g0.elim
    obtain ⟨rfl, gf⟩ := g0
    have z := all2_cons gf
    clear gf
    obtain ⟨v0, fs, rfl, q0, gf⟩ := z
    cases (q0 : v0 = .inr (some (.inl 2)))
    have z := all2_cons gf
    clear gf
    obtain ⟨v0, fs, rfl, q0, gf⟩ := z
    obtain ⟨Tape_size, rfl, b_Tape_size⟩ := q0
    cases fs with
    | cons _ _ => exact gf.elim
    | nil =>
      have z := all2_cons hh
      clear hh
      obtain ⟨e1, h, rfl, g1, hh⟩ := z
      rcases e1 with ⟨t1, n1, Tape_bytes⟩ | ⟨ci, fs⟩
      rotate_left
      · exact g1.elim
      obtain ⟨et, en, b_Tape_bytes⟩ := g1
      cases (et : t1 = 0)
      cases en
      have z := all2_cons hh
      clear hh
      obtain ⟨e0, h, rfl, g0, hh⟩ := z
      rcases e0 with ⟨t0, n0, f0⟩ | ⟨ci, fs⟩
      · exact g0.elim
      obtain ⟨rfl, gf⟩ := g0
      have z := all2_cons gf
      clear gf
      obtain ⟨v0, fs, rfl, q0, gf⟩ := z
      cases (q0 : v0 = .inr (some (.inl 4)))
      have z := all2_cons gf
      clear gf
      obtain ⟨v0, fs, rfl, q0, gf⟩ := z
      cases (q0 : v0 = .inr (some (.inl 5)))
      have z := all2_cons gf
      clear gf
      obtain ⟨v0, fs, rfl, q0, gf⟩ := z
      cases (q0 : v0 = .inr (some (.inl 6)))
      have z := all2_cons gf
      clear gf
      obtain ⟨v0, fs, rfl, q0, gf⟩ := z
      cases (q0 : v0 = .inr (some (.inl 7)))
      have z := all2_cons gf
      clear gf
      obtain ⟨v0, fs, rfl, q0, gf⟩ := z
      cases (q0 : v0 = .inr (some (.inl 8)))
      have z := all2_cons gf
      clear gf
      obtain ⟨v0, fs, rfl, q0, gf⟩ := z
      obtain ⟨Rep_toldMints, rfl, e_Rep_toldMints, b_Rep_toldMints⟩ := gT_x (τ := τ) (t := 203) (v := v0) rfl q0
      have z := all2_cons gf
      clear gf
      obtain ⟨v0, fs, rfl, q0, gf⟩ := z
      obtain ⟨Rep_walls, rfl, b_Rep_walls⟩ := q0
      have z := all2_cons gf
      clear gf
      obtain ⟨v0, fs, rfl, q0, gf⟩ := z
      obtain ⟨Rep_stamps, rfl, b_Rep_stamps⟩ := q0
      cases fs with
      | cons _ _ => exact gf.elim
      | nil =>
        have z := all2_cons hh
        clear hh
        obtain ⟨e1, h, rfl, g1, hh⟩ := z
        rcases e1 with ⟨t1, n1, Rep_mintX⟩ | ⟨ci, fs⟩
        rotate_left
        · exact g1.elim
        obtain ⟨et, en, b_Rep_mintX⟩ := g1
        cases (et : t1 = 0)
        cases en
        have z := all2_cons hh
        clear hh
        obtain ⟨e1, h, rfl, g1, hh⟩ := z
        rcases e1 with ⟨t1, n1, Rep_mintY⟩ | ⟨ci, fs⟩
        rotate_left
        · exact g1.elim
        obtain ⟨et, en, b_Rep_mintY⟩ := g1
        cases (et : t1 = 0)
        cases en
        have z := all2_cons hh
        clear hh
        obtain ⟨e1, h, rfl, g1, hh⟩ := z
        rcases e1 with ⟨t1, n1, Rep_wall⟩ | ⟨ci, fs⟩
        rotate_left
        · exact g1.elim
        obtain ⟨et, en, b_Rep_wall⟩ := g1
        cases (et : t1 = 2)
        cases en
        have z := all2_cons hh
        clear hh
        obtain ⟨e1, h, rfl, g1, hh⟩ := z
        rcases e1 with ⟨t1, n1, Rep_mintOf⟩ | ⟨ci, fs⟩
        rotate_left
        · exact g1.elim
        obtain ⟨et, en, b_Rep_mintOf⟩ := g1
        cases (et : t1 = 0)
        cases en
        have z := all2_cons hh
        clear hh
        obtain ⟨e1, h, rfl, g1, hh⟩ := z
        rcases e1 with ⟨t1, n1, Rep_grainsOf⟩ | ⟨ci, fs⟩
        rotate_left
        · exact g1.elim
        obtain ⟨et, en, b_Rep_grainsOf⟩ := g1
        cases (et : t1 = 0)
        cases en
        cases h with
        | cons _ _ => exact hh.elim
        | nil =>
          obtain ⟨s, hs, rfl⟩ := rng_n (x := Tape_size) (k := 260) (by omega) b_Tape_size.2
          have es := sz_n (c := s) (by omega)
          obtain ⟨rF, eF⟩ := rg_x rfl b_Tape_bytes
          obtain ⟨T, t1, t2, t3⟩ := hP
          obtain ⟨rX, eX⟩ := rg_x rfl b_Rep_mintX
          obtain ⟨rY, eY⟩ := rg_x rfl b_Rep_mintY
          obtain rfl : Rep_toldMints = nI T := e_Rep_toldMints.trans t2
          refine (c_X11_printed (o := ob (decA (τ 250))) (s := s) (T := T) h1.1 (by omega) hs (by omega) (fun i hi => ob_ok (by omega) (eF i (by omega)) (rF i (by omega))) (fun m hm hb => by obtain ⟨x, y, a, b, c, d⟩ := t3 m hm hb; exact ⟨x, y, a, b, by rw [eX m hm]; exact c, by rw [eY m hm]; exact d⟩)).mono (fun r h' hp => ?_)
          obtain ⟨rfl, rfl⟩ := hp
          exact ⟨τ, _, hΦ, fun _ _ => rfl, rfl, ⟨T, t1, t2, congrArg nI (prF_congr eX eY)⟩, ⟨⟨rfl, rfl, rfl, rfl, rfl, rfl, rfl, rfl, rfl, rfl, rfl, rfl, rfl, rfl, rfl, gT_mk rfl e_HS_wasKept b_HS_wasKept, trivial⟩, ⟨rfl, rfl, ⟨0, rfl, by decide, by decide⟩, trivial⟩, ⟨rfl, rfl, b_Tape_bytes⟩, ⟨rfl, rfl, rfl, rfl, rfl, rfl, gT_mk rfl e_Rep_toldMints b_Rep_toldMints, ⟨_, rfl, b_Rep_walls⟩, ⟨_, rfl, b_Rep_stamps⟩, trivial⟩, ⟨rfl, rfl, b_Rep_mintX⟩, ⟨rfl, rfl, b_Rep_mintY⟩, ⟨rfl, rfl, b_Rep_wall⟩, ⟨rfl, rfl, b_Rep_mintOf⟩, ⟨rfl, rfl, b_Rep_grainsOf⟩, trivial⟩⟩

def HX_printed20R : List AC := hc_68b8277d61
def HY_printed20R : List AC := hc_9b81da42b3
set_option maxRecDepth 100000 in
theorem x_printed20R {l : Launch} {n : Nat} (h1 : 1 ≤ n ∧ n ≤ 6) : conOkX (MetP l 2 yX12_printed cX12_printed 6 (some .int) 0 0) [nI n] HX_printed20R HY_printed20R (fun _ => false) (fun _ => True) (fun τ _ y => y = nI (prF (prR (ob (fun i => f_and (decA (τ 251) i) 255)) n (decA (τ 254))) 8)) := by
  intro τ hΦ hP h hh
  have z := all2_cons hh
  clear hh
  obtain ⟨e0, h, rfl, g0, hh⟩ := z
  rcases e0 with ⟨t0, n0, f0⟩ | ⟨ci, fs⟩
  · exact g0.elim
  obtain ⟨rfl, gf⟩ := g0
  have z := all2_cons gf
  clear gf
  obtain ⟨v0, fs, rfl, q0, gf⟩ := z
  cases gT_r (τ := τ) (t := 0) (v := v0) rfl q0
  have z := all2_cons gf
  clear gf
  obtain ⟨v0, fs, rfl, q0, gf⟩ := z
  cases gT_r (τ := τ) (t := 1) (v := v0) rfl q0
  have z := all2_cons gf
  clear gf
  obtain ⟨v0, fs, rfl, q0, gf⟩ := z
  cases gT_r (τ := τ) (t := 2) (v := v0) rfl q0
  have z := all2_cons gf
  clear gf
  obtain ⟨v0, fs, rfl, q0, gf⟩ := z
  cases (q0 : v0 = .inr (some (.inl 1)))
  have z := all2_cons gf
  clear gf
  obtain ⟨v0, fs, rfl, q0, gf⟩ := z
  cases gT_r (τ := τ) (t := 3) (v := v0) rfl q0
  have z := all2_cons gf
  clear gf
  obtain ⟨v0, fs, rfl, q0, gf⟩ := z
  cases gT_r (τ := τ) (t := 4) (v := v0) rfl q0
  have z := all2_cons gf
  clear gf
  obtain ⟨v0, fs, rfl, q0, gf⟩ := z
  cases gT_r (τ := τ) (t := 5) (v := v0) rfl q0
  have z := all2_cons gf
  clear gf
  obtain ⟨v0, fs, rfl, q0, gf⟩ := z
  cases gT_r (τ := τ) (t := 6) (v := v0) rfl q0
  have z := all2_cons gf
  clear gf
  obtain ⟨v0, fs, rfl, q0, gf⟩ := z
  obtain ⟨M_stampMany, rfl, b_M_stampMany⟩ := q0
  have z := all2_cons gf
  clear gf
  obtain ⟨v0, fs, rfl, q0, gf⟩ := z
  cases (q0 : v0 = .inr (some (.inl 2)))
  have z := all2_cons gf
  clear gf
  obtain ⟨v0, fs, rfl, q0, gf⟩ := z
  obtain ⟨M_taped, rfl, b_M_taped⟩ := q0
  have z := all2_cons gf
  clear gf
  obtain ⟨v0, fs, rfl, q0, gf⟩ := z
  obtain ⟨M_place0, rfl, b_M_place0⟩ := q0
  have z := all2_cons gf
  clear gf
  obtain ⟨v0, fs, rfl, q0, gf⟩ := z
  obtain ⟨M_length0, rfl, b_M_length0⟩ := q0
  have z := all2_cons gf
  clear gf
  obtain ⟨v0, fs, rfl, q0, gf⟩ := z
  obtain ⟨M_fault, rfl, b_M_fault⟩ := q0
  have z := all2_cons gf
  clear gf
  obtain ⟨v0, fs, rfl, q0, gf⟩ := z
  obtain ⟨M_number0, rfl, b_M_number0⟩ := q0
  have z := all2_cons gf
  clear gf
  obtain ⟨v0, fs, rfl, q0, gf⟩ := z
  obtain ⟨M_open, rfl, b_M_open⟩ := q0
  have z := all2_cons gf
  clear gf
  obtain ⟨v0, fs, rfl, q0, gf⟩ := z
  obtain ⟨M_codeMany, rfl, b_M_codeMany⟩ := q0
  have z := all2_cons gf
  clear gf
  obtain ⟨v0, fs, rfl, q0, gf⟩ := z
  obtain ⟨M_waiting, rfl, b_M_waiting⟩ := q0
  have z := all2_cons gf
  clear gf
  obtain ⟨v0, fs, rfl, q0, gf⟩ := z
  obtain ⟨M_saidMany, rfl, b_M_saidMany⟩ := q0
  have z := all2_cons gf
  clear gf
  obtain ⟨v0, fs, rfl, q0, gf⟩ := z
  obtain ⟨M_clauses, rfl, e_M_clauses, b_M_clauses⟩ := gT_x (τ := τ) (t := 200) (v := v0) rfl q0
  have z := all2_cons gf
  clear gf
  obtain ⟨v0, fs, rfl, q0, gf⟩ := z
  cases gT_r (τ := τ) (t := 7) (v := v0) rfl q0
  have z := all2_cons gf
  clear gf
  obtain ⟨v0, fs, rfl, q0, gf⟩ := z
  cases gT_r (τ := τ) (t := 8) (v := v0) rfl q0
  have z := all2_cons gf
  clear gf
  obtain ⟨v0, fs, rfl, q0, gf⟩ := z
  cases gT_r (τ := τ) (t := 9) (v := v0) rfl q0
  have z := all2_cons gf
  clear gf
  obtain ⟨v0, fs, rfl, q0, gf⟩ := z
  cases gT_r (τ := τ) (t := 10) (v := v0) rfl q0
  have z := all2_cons gf
  clear gf
  obtain ⟨v0, fs, rfl, q0, gf⟩ := z
  cases gT_r (τ := τ) (t := 11) (v := v0) rfl q0
  have z := all2_cons gf
  clear gf
  obtain ⟨v0, fs, rfl, q0, gf⟩ := z
  cases gT_r (τ := τ) (t := 12) (v := v0) rfl q0
  have z := all2_cons gf
  clear gf
  obtain ⟨v0, fs, rfl, q0, gf⟩ := z
  cases gT_r (τ := τ) (t := 13) (v := v0) rfl q0
  have z := all2_cons gf
  clear gf
  obtain ⟨v0, fs, rfl, q0, gf⟩ := z
  cases gT_r (τ := τ) (t := 14) (v := v0) rfl q0
  have z := all2_cons gf
  clear gf
  obtain ⟨v0, fs, rfl, q0, gf⟩ := z
  cases gT_r (τ := τ) (t := 15) (v := v0) rfl q0
  have z := all2_cons gf
  clear gf
  obtain ⟨v0, fs, rfl, q0, gf⟩ := z
  cases gT_r (τ := τ) (t := 16) (v := v0) rfl q0
  have z := all2_cons gf
  clear gf
  obtain ⟨v0, fs, rfl, q0, gf⟩ := z
  cases gT_r (τ := τ) (t := 17) (v := v0) rfl q0
  have z := all2_cons gf
  clear gf
  obtain ⟨v0, fs, rfl, q0, gf⟩ := z
  cases gT_r (τ := τ) (t := 18) (v := v0) rfl q0
  have z := all2_cons gf
  clear gf
  obtain ⟨v0, fs, rfl, q0, gf⟩ := z
  cases gT_r (τ := τ) (t := 19) (v := v0) rfl q0
  have z := all2_cons gf
  clear gf
  obtain ⟨v0, fs, rfl, q0, gf⟩ := z
  cases gT_r (τ := τ) (t := 20) (v := v0) rfl q0
  have z := all2_cons gf
  clear gf
  obtain ⟨v0, fs, rfl, q0, gf⟩ := z
  cases gT_r (τ := τ) (t := 21) (v := v0) rfl q0
  have z := all2_cons gf
  clear gf
  obtain ⟨v0, fs, rfl, q0, gf⟩ := z
  cases gT_r (τ := τ) (t := 22) (v := v0) rfl q0
  have z := all2_cons gf
  clear gf
  obtain ⟨v0, fs, rfl, q0, gf⟩ := z
  cases gT_r (τ := τ) (t := 23) (v := v0) rfl q0
  have z := all2_cons gf
  clear gf
  obtain ⟨v0, fs, rfl, q0, gf⟩ := z
  obtain ⟨M_newMany, rfl, b_M_newMany⟩ := q0
  have z := all2_cons gf
  clear gf
  obtain ⟨v0, fs, rfl, q0, gf⟩ := z
  obtain ⟨M_rounds, rfl, b_M_rounds⟩ := q0
  have z := all2_cons gf
  clear gf
  obtain ⟨v0, fs, rfl, q0, gf⟩ := z
  obtain ⟨M_stampFrom, rfl, b_M_stampFrom⟩ := q0
  have z := all2_cons gf
  clear gf
  obtain ⟨v0, fs, rfl, q0, gf⟩ := z
  obtain ⟨M_stampTimes, rfl, b_M_stampTimes⟩ := q0
  have z := all2_cons gf
  clear gf
  obtain ⟨v0, fs, rfl, q0, gf⟩ := z
  obtain ⟨M_lines, rfl, b_M_lines⟩ := q0
  have z := all2_cons gf
  clear gf
  obtain ⟨v0, fs, rfl, q0, gf⟩ := z
  obtain ⟨M_spot0, rfl, b_M_spot0⟩ := q0
  have z := all2_cons gf
  clear gf
  obtain ⟨v0, fs, rfl, q0, gf⟩ := z
  obtain ⟨M_pullAcross, rfl, b_M_pullAcross⟩ := q0
  have z := all2_cons gf
  clear gf
  obtain ⟨v0, fs, rfl, q0, gf⟩ := z
  obtain ⟨M_pullAlong, rfl, b_M_pullAlong⟩ := q0
  have z := all2_cons gf
  clear gf
  obtain ⟨v0, fs, rfl, q0, gf⟩ := z
  obtain ⟨M_stepsNow, rfl, b_M_stepsNow⟩ := q0
  have z := all2_cons gf
  clear gf
  obtain ⟨v0, fs, rfl, q0, gf⟩ := z
  obtain ⟨M_fallenNow, rfl, b_M_fallenNow⟩ := q0
  have z := all2_cons gf
  clear gf
  obtain ⟨v0, fs, rfl, q0, gf⟩ := z
  cases gT_r (τ := τ) (t := 24) (v := v0) rfl q0
  have z := all2_cons gf
  clear gf
  obtain ⟨v0, fs, rfl, q0, gf⟩ := z
  cases gT_r (τ := τ) (t := 25) (v := v0) rfl q0
  have z := all2_cons gf
  clear gf
  obtain ⟨v0, fs, rfl, q0, gf⟩ := z
  cases gT_r (τ := τ) (t := 26) (v := v0) rfl q0
  have z := all2_cons gf
  clear gf
  obtain ⟨v0, fs, rfl, q0, gf⟩ := z
  cases gT_r (τ := τ) (t := 27) (v := v0) rfl q0
  have z := all2_cons gf
  clear gf
  obtain ⟨v0, fs, rfl, q0, gf⟩ := z
  cases gT_r (τ := τ) (t := 28) (v := v0) rfl q0
  have z := all2_cons gf
  clear gf
  obtain ⟨v0, fs, rfl, q0, gf⟩ := z
  obtain ⟨M_isKept, rfl, e_M_isKept, b_M_isKept⟩ := gT_x (τ := τ) (t := 201) (v := v0) rfl q0
  cases fs with
  | cons _ _ => exact gf.elim
  | nil =>
    have z := all2_cons hh
    clear hh
    obtain ⟨e1, h, rfl, g1, hh⟩ := z
    rcases e1 with ⟨t1, n1, M_mintAt⟩ | ⟨ci, fs⟩
    rotate_left
    · exact g1.elim
    obtain ⟨et, en, b_M_mintAt⟩ := g1
    cases (et : t1 = 0)
    cases en
    have z := all2_cons hh
    clear hh
    obtain ⟨e1, h, rfl, g1, hh⟩ := z
    rcases e1 with ⟨t1, n1, M_tape⟩ | ⟨ci, fs⟩
    rotate_left
    · exact g1.elim
    obtain ⟨et, en, b_M_tape⟩ := g1
    cases (et : t1 = 1)
    cases en
    cases h with
    | cons _ _ => exact hh.elim
    | nil =>
      obtain ⟨s, hs, rfl⟩ := rng_n (x := M_taped) (k := 260) (by omega) b_M_taped.2
      have es := sz_n (c := s) (by omega)
      obtain ⟨rF, eF⟩ := rg_x rfl b_M_tape
      obtain ⟨rA, eA⟩ := rg_x rfl b_M_mintAt
      refine (c_X12_printed (o := ob (fun i => f_and (decA (τ 251) i) 255)) (s := s) h1.1 (by omega) hs (by omega) (fun i hi => ob_ok (f := fun i => f_and (decA (τ 251) i) 255) (F := fun i => f_and (M_tape i) 255) (by omega) (by show f_and (M_tape i) 255 = f_and (decA (τ 251) i) 255; rw [eF i (by omega)]) oct_rng) rA).mono (fun r h' hp => ?_)
      obtain ⟨rfl, rfl⟩ := hp
      exact ⟨τ, _, hΦ, fun _ _ => rfl, rfl, congrArg nI (prR_congr eA), ⟨⟨rfl, rfl, rfl, rfl, rfl, rfl, rfl, rfl, rfl, ⟨_, rfl, b_M_stampMany⟩, rfl, ⟨0, rfl, by decide, by decide⟩, ⟨_, rfl, b_M_place0⟩, ⟨_, rfl, b_M_length0⟩, ⟨_, rfl, b_M_fault⟩, ⟨_, rfl, b_M_number0⟩, ⟨_, rfl, b_M_open⟩, ⟨_, rfl, b_M_codeMany⟩, ⟨_, rfl, b_M_waiting⟩, ⟨_, rfl, b_M_saidMany⟩, gT_mk rfl e_M_clauses b_M_clauses, rfl, rfl, rfl, rfl, rfl, rfl, rfl, rfl, rfl, rfl, rfl, rfl, rfl, rfl, rfl, rfl, rfl, ⟨_, rfl, b_M_newMany⟩, ⟨_, rfl, b_M_rounds⟩, ⟨_, rfl, b_M_stampFrom⟩, ⟨_, rfl, b_M_stampTimes⟩, ⟨_, rfl, b_M_lines⟩, ⟨_, rfl, b_M_spot0⟩, ⟨_, rfl, b_M_pullAcross⟩, ⟨_, rfl, b_M_pullAlong⟩, ⟨_, rfl, b_M_stepsNow⟩, ⟨_, rfl, b_M_fallenNow⟩, rfl, rfl, rfl, rfl, rfl, gT_mk rfl e_M_isKept b_M_isKept, trivial⟩, ⟨rfl, rfl, b_M_mintAt⟩, ⟨rfl, rfl, b_M_tape⟩, trivial⟩⟩

def HX_printed40C : List AC := hc_1069d50394
def HY_printed40C : List AC := hc_2f628bb91b
set_option maxRecDepth 100000 in
theorem x_printed40C {l : Launch} {n : Nat} (h1 : 1 ≤ n ∧ n ≤ 10) : conOkX (MetP l 3 yX11_printed cX11_printed 4 (some .int) 0 0) [nI n] HX_printed40C HY_printed40C (fun _ => false) (fun τ => ∃ T, T < 256 ∧ decA (τ 203) 0 = nI T ∧ ∀ m, m < 8 → T.testBit m = true → ∃ x y, x ≤ 23 ∧ y ≤ 15 ∧ decA (τ 252) m = nI x ∧ decA (τ 253) m = nI y) (fun τ _ y => ∃ T, T < 256 ∧ decA (τ 203) 0 = nI T ∧ y = nI (prF (prC (ob (decA (τ 250))) n T (decA (τ 252)) (decA (τ 253))) 8)) := by
  intro τ hΦ hP h hh
  have z := all2_cons hh
  clear hh
  obtain ⟨e0, h, rfl, g0, hh⟩ := z
  rcases e0 with ⟨t0, n0, f0⟩ | ⟨ci, fs⟩
  · exact g0.elim
  obtain ⟨rfl, gf⟩ := g0
  have z := all2_cons gf
  clear gf
  obtain ⟨v0, fs, rfl, q0, gf⟩ := z
  cases (q0 : v0 = .inr (some (.inl 1)))
  have z := all2_cons gf
  clear gf
  obtain ⟨v0, fs, rfl, q0, gf⟩ := z
  cases (q0 : v0 = .inr (some (.inl 3)))
  have z := all2_cons gf
  clear gf
  obtain ⟨v0, fs, rfl, q0, gf⟩ := z
  cases gT_r (τ := τ) (t := 0) (v := v0) rfl q0
  have z := all2_cons gf
  clear gf
  obtain ⟨v0, fs, rfl, q0, gf⟩ := z
  cases gT_r (τ := τ) (t := 1) (v := v0) rfl q0
  have z := all2_cons gf
  clear gf
  obtain ⟨v0, fs, rfl, q0, gf⟩ := z
  cases gT_r (τ := τ) (t := 2) (v := v0) rfl q0
  have z := all2_cons gf
  clear gf
  obtain ⟨v0, fs, rfl, q0, gf⟩ := z
  cases gT_r (τ := τ) (t := 3) (v := v0) rfl q0
  have z := all2_cons gf
  clear gf
  obtain ⟨v0, fs, rfl, q0, gf⟩ := z
  cases gT_r (τ := τ) (t := 4) (v := v0) rfl q0
  have z := all2_cons gf
  clear gf
  obtain ⟨v0, fs, rfl, q0, gf⟩ := z
  cases gT_r (τ := τ) (t := 5) (v := v0) rfl q0
  have z := all2_cons gf
  clear gf
  obtain ⟨v0, fs, rfl, q0, gf⟩ := z
  cases gT_r (τ := τ) (t := 6) (v := v0) rfl q0
  have z := all2_cons gf
  clear gf
  obtain ⟨v0, fs, rfl, q0, gf⟩ := z
  cases gT_r (τ := τ) (t := 7) (v := v0) rfl q0
  have z := all2_cons gf
  clear gf
  obtain ⟨v0, fs, rfl, q0, gf⟩ := z
  cases gT_r (τ := τ) (t := 8) (v := v0) rfl q0
  have z := all2_cons gf
  clear gf
  obtain ⟨v0, fs, rfl, q0, gf⟩ := z
  cases gT_r (τ := τ) (t := 9) (v := v0) rfl q0
  have z := all2_cons gf
  clear gf
  obtain ⟨v0, fs, rfl, q0, gf⟩ := z
  cases gT_r (τ := τ) (t := 10) (v := v0) rfl q0
  have z := all2_cons gf
  clear gf
  obtain ⟨v0, fs, rfl, q0, gf⟩ := z
  cases gT_r (τ := τ) (t := 11) (v := v0) rfl q0
  have z := all2_cons gf
  clear gf
  obtain ⟨v0, fs, rfl, q0, gf⟩ := z
  obtain ⟨HS_wasKept, rfl, e_HS_wasKept, b_HS_wasKept⟩ := gT_x (τ := τ) (t := 201) (v := v0) rfl q0
  cases fs with
  | cons _ _ => exact gf.elim
  | nil =>
    have z := all2_cons hh
    clear hh
    obtain ⟨e0, h, rfl, g0, hh⟩ := z
    rcases e0 with ⟨t0, n0, f0⟩ | ⟨ci, fs⟩
    · exact g0.elim
    obtain ⟨rfl, gf⟩ := g0
    have z := all2_cons gf
    clear gf
    obtain ⟨v0, fs, rfl, q0, gf⟩ := z
    cases (q0 : v0 = .inr (some (.inl 2)))
    have z := all2_cons gf
    clear gf
    obtain ⟨v0, fs, rfl, q0, gf⟩ := z
    obtain ⟨Tape_size, rfl, b_Tape_size⟩ := q0
    cases fs with
    | cons _ _ => exact gf.elim
    | nil =>
      have z := all2_cons hh
      clear hh
      obtain ⟨e1, h, rfl, g1, hh⟩ := z
      rcases e1 with ⟨t1, n1, Tape_bytes⟩ | ⟨ci, fs⟩
      rotate_left
      · exact g1.elim
      obtain ⟨et, en, b_Tape_bytes⟩ := g1
      cases (et : t1 = 0)
      cases en
      have z := all2_cons hh
      clear hh
      obtain ⟨e0, h, rfl, g0, hh⟩ := z
      rcases e0 with ⟨t0, n0, f0⟩ | ⟨ci, fs⟩
      · exact g0.elim
      obtain ⟨rfl, gf⟩ := g0
      have z := all2_cons gf
      clear gf
      obtain ⟨v0, fs, rfl, q0, gf⟩ := z
      cases (q0 : v0 = .inr (some (.inl 4)))
      have z := all2_cons gf
      clear gf
      obtain ⟨v0, fs, rfl, q0, gf⟩ := z
      cases (q0 : v0 = .inr (some (.inl 5)))
      have z := all2_cons gf
      clear gf
      obtain ⟨v0, fs, rfl, q0, gf⟩ := z
      cases (q0 : v0 = .inr (some (.inl 6)))
      have z := all2_cons gf
      clear gf
      obtain ⟨v0, fs, rfl, q0, gf⟩ := z
      cases (q0 : v0 = .inr (some (.inl 7)))
      have z := all2_cons gf
      clear gf
      obtain ⟨v0, fs, rfl, q0, gf⟩ := z
      cases (q0 : v0 = .inr (some (.inl 8)))
      have z := all2_cons gf
      clear gf
      obtain ⟨v0, fs, rfl, q0, gf⟩ := z
      obtain ⟨Rep_toldMints, rfl, e_Rep_toldMints, b_Rep_toldMints⟩ := gT_x (τ := τ) (t := 203) (v := v0) rfl q0
      have z := all2_cons gf
      clear gf
      obtain ⟨v0, fs, rfl, q0, gf⟩ := z
      obtain ⟨Rep_walls, rfl, b_Rep_walls⟩ := q0
      have z := all2_cons gf
      clear gf
      obtain ⟨v0, fs, rfl, q0, gf⟩ := z
      obtain ⟨Rep_stamps, rfl, b_Rep_stamps⟩ := q0
      cases fs with
      | cons _ _ => exact gf.elim
      | nil =>
        have z := all2_cons hh
        clear hh
        obtain ⟨e1, h, rfl, g1, hh⟩ := z
        rcases e1 with ⟨t1, n1, Rep_mintX⟩ | ⟨ci, fs⟩
        rotate_left
        · exact g1.elim
        obtain ⟨et, en, b_Rep_mintX⟩ := g1
        cases (et : t1 = 0)
        cases en
        have z := all2_cons hh
        clear hh
        obtain ⟨e1, h, rfl, g1, hh⟩ := z
        rcases e1 with ⟨t1, n1, Rep_mintY⟩ | ⟨ci, fs⟩
        rotate_left
        · exact g1.elim
        obtain ⟨et, en, b_Rep_mintY⟩ := g1
        cases (et : t1 = 0)
        cases en
        have z := all2_cons hh
        clear hh
        obtain ⟨e1, h, rfl, g1, hh⟩ := z
        rcases e1 with ⟨t1, n1, Rep_wall⟩ | ⟨ci, fs⟩
        rotate_left
        · exact g1.elim
        obtain ⟨et, en, b_Rep_wall⟩ := g1
        cases (et : t1 = 2)
        cases en
        have z := all2_cons hh
        clear hh
        obtain ⟨e1, h, rfl, g1, hh⟩ := z
        rcases e1 with ⟨t1, n1, Rep_mintOf⟩ | ⟨ci, fs⟩
        rotate_left
        · exact g1.elim
        obtain ⟨et, en, b_Rep_mintOf⟩ := g1
        cases (et : t1 = 0)
        cases en
        have z := all2_cons hh
        clear hh
        obtain ⟨e1, h, rfl, g1, hh⟩ := z
        rcases e1 with ⟨t1, n1, Rep_grainsOf⟩ | ⟨ci, fs⟩
        rotate_left
        · exact g1.elim
        obtain ⟨et, en, b_Rep_grainsOf⟩ := g1
        cases (et : t1 = 0)
        cases en
        cases h with
        | cons _ _ => exact hh.elim
        | nil =>
          obtain ⟨s, hs, rfl⟩ := rng_n (x := Tape_size) (k := 260) (by omega) b_Tape_size.2
          have es := sz_n (c := s) (by omega)
          obtain ⟨rF, eF⟩ := rg_x rfl b_Tape_bytes
          obtain ⟨T, t1, t2, t3⟩ := hP
          obtain ⟨rX, eX⟩ := rg_x rfl b_Rep_mintX
          obtain ⟨rY, eY⟩ := rg_x rfl b_Rep_mintY
          obtain rfl : Rep_toldMints = nI T := e_Rep_toldMints.trans t2
          refine (c_X11_printed (o := ob (decA (τ 250))) (s := s) (T := T) h1.1 (by omega) hs (by omega) (fun i hi => ob_ok (by omega) (eF i (by omega)) (rF i (by omega))) (fun m hm hb => by obtain ⟨x, y, a, b, c, d⟩ := t3 m hm hb; exact ⟨x, y, a, b, by rw [eX m hm]; exact c, by rw [eY m hm]; exact d⟩)).mono (fun r h' hp => ?_)
          obtain ⟨rfl, rfl⟩ := hp
          exact ⟨τ, _, hΦ, fun _ _ => rfl, rfl, ⟨T, t1, t2, congrArg nI (prF_congr eX eY)⟩, ⟨⟨rfl, rfl, rfl, rfl, rfl, rfl, rfl, rfl, rfl, rfl, rfl, rfl, rfl, rfl, rfl, gT_mk rfl e_HS_wasKept b_HS_wasKept, trivial⟩, ⟨rfl, rfl, ⟨0, rfl, by decide, by decide⟩, trivial⟩, ⟨rfl, rfl, b_Tape_bytes⟩, ⟨rfl, rfl, rfl, rfl, rfl, rfl, gT_mk rfl e_Rep_toldMints b_Rep_toldMints, ⟨_, rfl, b_Rep_walls⟩, ⟨_, rfl, b_Rep_stamps⟩, trivial⟩, ⟨rfl, rfl, b_Rep_mintX⟩, ⟨rfl, rfl, b_Rep_mintY⟩, ⟨rfl, rfl, b_Rep_wall⟩, ⟨rfl, rfl, b_Rep_mintOf⟩, ⟨rfl, rfl, b_Rep_grainsOf⟩, trivial⟩⟩

def HX_printed40R : List AC := hc_95a2b15243
def HY_printed40R : List AC := hc_9b81da42b3
set_option maxRecDepth 100000 in
theorem x_printed40R {l : Launch} {n : Nat} (h1 : 1 ≤ n ∧ n ≤ 10) : conOkX (MetP l 2 yX12_printed cX12_printed 6 (some .int) 0 0) [nI n] HX_printed40R HY_printed40R (fun _ => false) (fun _ => True) (fun τ _ y => y = nI (prF (prR (ob (fun i => f_and (decA (τ 251) i) 255)) n (decA (τ 254))) 8)) := by
  intro τ hΦ hP h hh
  have z := all2_cons hh
  clear hh
  obtain ⟨e0, h, rfl, g0, hh⟩ := z
  rcases e0 with ⟨t0, n0, f0⟩ | ⟨ci, fs⟩
  · exact g0.elim
  obtain ⟨rfl, gf⟩ := g0
  have z := all2_cons gf
  clear gf
  obtain ⟨v0, fs, rfl, q0, gf⟩ := z
  cases gT_r (τ := τ) (t := 0) (v := v0) rfl q0
  have z := all2_cons gf
  clear gf
  obtain ⟨v0, fs, rfl, q0, gf⟩ := z
  cases gT_r (τ := τ) (t := 1) (v := v0) rfl q0
  have z := all2_cons gf
  clear gf
  obtain ⟨v0, fs, rfl, q0, gf⟩ := z
  cases gT_r (τ := τ) (t := 2) (v := v0) rfl q0
  have z := all2_cons gf
  clear gf
  obtain ⟨v0, fs, rfl, q0, gf⟩ := z
  cases (q0 : v0 = .inr (some (.inl 1)))
  have z := all2_cons gf
  clear gf
  obtain ⟨v0, fs, rfl, q0, gf⟩ := z
  cases gT_r (τ := τ) (t := 3) (v := v0) rfl q0
  have z := all2_cons gf
  clear gf
  obtain ⟨v0, fs, rfl, q0, gf⟩ := z
  cases gT_r (τ := τ) (t := 4) (v := v0) rfl q0
  have z := all2_cons gf
  clear gf
  obtain ⟨v0, fs, rfl, q0, gf⟩ := z
  cases gT_r (τ := τ) (t := 5) (v := v0) rfl q0
  have z := all2_cons gf
  clear gf
  obtain ⟨v0, fs, rfl, q0, gf⟩ := z
  cases gT_r (τ := τ) (t := 6) (v := v0) rfl q0
  have z := all2_cons gf
  clear gf
  obtain ⟨v0, fs, rfl, q0, gf⟩ := z
  obtain ⟨M_stampMany, rfl, b_M_stampMany⟩ := q0
  have z := all2_cons gf
  clear gf
  obtain ⟨v0, fs, rfl, q0, gf⟩ := z
  cases (q0 : v0 = .inr (some (.inl 2)))
  have z := all2_cons gf
  clear gf
  obtain ⟨v0, fs, rfl, q0, gf⟩ := z
  obtain ⟨M_taped, rfl, b_M_taped⟩ := q0
  have z := all2_cons gf
  clear gf
  obtain ⟨v0, fs, rfl, q0, gf⟩ := z
  obtain ⟨M_place0, rfl, b_M_place0⟩ := q0
  have z := all2_cons gf
  clear gf
  obtain ⟨v0, fs, rfl, q0, gf⟩ := z
  obtain ⟨M_length0, rfl, b_M_length0⟩ := q0
  have z := all2_cons gf
  clear gf
  obtain ⟨v0, fs, rfl, q0, gf⟩ := z
  obtain ⟨M_fault, rfl, b_M_fault⟩ := q0
  have z := all2_cons gf
  clear gf
  obtain ⟨v0, fs, rfl, q0, gf⟩ := z
  obtain ⟨M_number0, rfl, b_M_number0⟩ := q0
  have z := all2_cons gf
  clear gf
  obtain ⟨v0, fs, rfl, q0, gf⟩ := z
  obtain ⟨M_open, rfl, b_M_open⟩ := q0
  have z := all2_cons gf
  clear gf
  obtain ⟨v0, fs, rfl, q0, gf⟩ := z
  obtain ⟨M_codeMany, rfl, b_M_codeMany⟩ := q0
  have z := all2_cons gf
  clear gf
  obtain ⟨v0, fs, rfl, q0, gf⟩ := z
  obtain ⟨M_waiting, rfl, b_M_waiting⟩ := q0
  have z := all2_cons gf
  clear gf
  obtain ⟨v0, fs, rfl, q0, gf⟩ := z
  obtain ⟨M_saidMany, rfl, b_M_saidMany⟩ := q0
  have z := all2_cons gf
  clear gf
  obtain ⟨v0, fs, rfl, q0, gf⟩ := z
  obtain ⟨M_clauses, rfl, e_M_clauses, b_M_clauses⟩ := gT_x (τ := τ) (t := 200) (v := v0) rfl q0
  have z := all2_cons gf
  clear gf
  obtain ⟨v0, fs, rfl, q0, gf⟩ := z
  cases gT_r (τ := τ) (t := 7) (v := v0) rfl q0
  have z := all2_cons gf
  clear gf
  obtain ⟨v0, fs, rfl, q0, gf⟩ := z
  cases gT_r (τ := τ) (t := 8) (v := v0) rfl q0
  have z := all2_cons gf
  clear gf
  obtain ⟨v0, fs, rfl, q0, gf⟩ := z
  cases gT_r (τ := τ) (t := 9) (v := v0) rfl q0
  have z := all2_cons gf
  clear gf
  obtain ⟨v0, fs, rfl, q0, gf⟩ := z
  cases gT_r (τ := τ) (t := 10) (v := v0) rfl q0
  have z := all2_cons gf
  clear gf
  obtain ⟨v0, fs, rfl, q0, gf⟩ := z
  cases gT_r (τ := τ) (t := 11) (v := v0) rfl q0
  have z := all2_cons gf
  clear gf
  obtain ⟨v0, fs, rfl, q0, gf⟩ := z
  cases gT_r (τ := τ) (t := 12) (v := v0) rfl q0
  have z := all2_cons gf
  clear gf
  obtain ⟨v0, fs, rfl, q0, gf⟩ := z
  cases gT_r (τ := τ) (t := 13) (v := v0) rfl q0
  have z := all2_cons gf
  clear gf
  obtain ⟨v0, fs, rfl, q0, gf⟩ := z
  cases gT_r (τ := τ) (t := 14) (v := v0) rfl q0
  have z := all2_cons gf
  clear gf
  obtain ⟨v0, fs, rfl, q0, gf⟩ := z
  cases gT_r (τ := τ) (t := 15) (v := v0) rfl q0
  have z := all2_cons gf
  clear gf
  obtain ⟨v0, fs, rfl, q0, gf⟩ := z
  cases gT_r (τ := τ) (t := 16) (v := v0) rfl q0
  have z := all2_cons gf
  clear gf
  obtain ⟨v0, fs, rfl, q0, gf⟩ := z
  cases gT_r (τ := τ) (t := 17) (v := v0) rfl q0
  have z := all2_cons gf
  clear gf
  obtain ⟨v0, fs, rfl, q0, gf⟩ := z
  cases gT_r (τ := τ) (t := 18) (v := v0) rfl q0
  have z := all2_cons gf
  clear gf
  obtain ⟨v0, fs, rfl, q0, gf⟩ := z
  cases gT_r (τ := τ) (t := 19) (v := v0) rfl q0
  have z := all2_cons gf
  clear gf
  obtain ⟨v0, fs, rfl, q0, gf⟩ := z
  cases gT_r (τ := τ) (t := 20) (v := v0) rfl q0
  have z := all2_cons gf
  clear gf
  obtain ⟨v0, fs, rfl, q0, gf⟩ := z
  cases gT_r (τ := τ) (t := 21) (v := v0) rfl q0
  have z := all2_cons gf
  clear gf
  obtain ⟨v0, fs, rfl, q0, gf⟩ := z
  cases gT_r (τ := τ) (t := 22) (v := v0) rfl q0
  have z := all2_cons gf
  clear gf
  obtain ⟨v0, fs, rfl, q0, gf⟩ := z
  cases gT_r (τ := τ) (t := 23) (v := v0) rfl q0
  have z := all2_cons gf
  clear gf
  obtain ⟨v0, fs, rfl, q0, gf⟩ := z
  obtain ⟨M_newMany, rfl, b_M_newMany⟩ := q0
  have z := all2_cons gf
  clear gf
  obtain ⟨v0, fs, rfl, q0, gf⟩ := z
  obtain ⟨M_rounds, rfl, b_M_rounds⟩ := q0
  have z := all2_cons gf
  clear gf
  obtain ⟨v0, fs, rfl, q0, gf⟩ := z
  obtain ⟨M_stampFrom, rfl, b_M_stampFrom⟩ := q0
  have z := all2_cons gf
  clear gf
  obtain ⟨v0, fs, rfl, q0, gf⟩ := z
  obtain ⟨M_stampTimes, rfl, b_M_stampTimes⟩ := q0
  have z := all2_cons gf
  clear gf
  obtain ⟨v0, fs, rfl, q0, gf⟩ := z
  obtain ⟨M_lines, rfl, b_M_lines⟩ := q0
  have z := all2_cons gf
  clear gf
  obtain ⟨v0, fs, rfl, q0, gf⟩ := z
  obtain ⟨M_spot0, rfl, b_M_spot0⟩ := q0
  have z := all2_cons gf
  clear gf
  obtain ⟨v0, fs, rfl, q0, gf⟩ := z
  obtain ⟨M_pullAcross, rfl, b_M_pullAcross⟩ := q0
  have z := all2_cons gf
  clear gf
  obtain ⟨v0, fs, rfl, q0, gf⟩ := z
  obtain ⟨M_pullAlong, rfl, b_M_pullAlong⟩ := q0
  have z := all2_cons gf
  clear gf
  obtain ⟨v0, fs, rfl, q0, gf⟩ := z
  obtain ⟨M_stepsNow, rfl, b_M_stepsNow⟩ := q0
  have z := all2_cons gf
  clear gf
  obtain ⟨v0, fs, rfl, q0, gf⟩ := z
  obtain ⟨M_fallenNow, rfl, b_M_fallenNow⟩ := q0
  have z := all2_cons gf
  clear gf
  obtain ⟨v0, fs, rfl, q0, gf⟩ := z
  cases gT_r (τ := τ) (t := 24) (v := v0) rfl q0
  have z := all2_cons gf
  clear gf
  obtain ⟨v0, fs, rfl, q0, gf⟩ := z
  cases gT_r (τ := τ) (t := 25) (v := v0) rfl q0
  have z := all2_cons gf
  clear gf
  obtain ⟨v0, fs, rfl, q0, gf⟩ := z
  cases gT_r (τ := τ) (t := 26) (v := v0) rfl q0
  have z := all2_cons gf
  clear gf
  obtain ⟨v0, fs, rfl, q0, gf⟩ := z
  cases gT_r (τ := τ) (t := 27) (v := v0) rfl q0
  have z := all2_cons gf
  clear gf
  obtain ⟨v0, fs, rfl, q0, gf⟩ := z
  cases gT_r (τ := τ) (t := 28) (v := v0) rfl q0
  have z := all2_cons gf
  clear gf
  obtain ⟨v0, fs, rfl, q0, gf⟩ := z
  obtain ⟨M_isKept, rfl, e_M_isKept, b_M_isKept⟩ := gT_x (τ := τ) (t := 201) (v := v0) rfl q0
  cases fs with
  | cons _ _ => exact gf.elim
  | nil =>
    have z := all2_cons hh
    clear hh
    obtain ⟨e1, h, rfl, g1, hh⟩ := z
    rcases e1 with ⟨t1, n1, M_mintAt⟩ | ⟨ci, fs⟩
    rotate_left
    · exact g1.elim
    obtain ⟨et, en, b_M_mintAt⟩ := g1
    cases (et : t1 = 0)
    cases en
    have z := all2_cons hh
    clear hh
    obtain ⟨e1, h, rfl, g1, hh⟩ := z
    rcases e1 with ⟨t1, n1, M_tape⟩ | ⟨ci, fs⟩
    rotate_left
    · exact g1.elim
    obtain ⟨et, en, b_M_tape⟩ := g1
    cases (et : t1 = 1)
    cases en
    cases h with
    | cons _ _ => exact hh.elim
    | nil =>
      obtain ⟨s, hs, rfl⟩ := rng_n (x := M_taped) (k := 260) (by omega) b_M_taped.2
      have es := sz_n (c := s) (by omega)
      obtain ⟨rF, eF⟩ := rg_x rfl b_M_tape
      obtain ⟨rA, eA⟩ := rg_x rfl b_M_mintAt
      refine (c_X12_printed (o := ob (fun i => f_and (decA (τ 251) i) 255)) (s := s) h1.1 (by omega) hs (by omega) (fun i hi => ob_ok (f := fun i => f_and (decA (τ 251) i) 255) (F := fun i => f_and (M_tape i) 255) (by omega) (by show f_and (M_tape i) 255 = f_and (decA (τ 251) i) 255; rw [eF i (by omega)]) oct_rng) rA).mono (fun r h' hp => ?_)
      obtain ⟨rfl, rfl⟩ := hp
      exact ⟨τ, _, hΦ, fun _ _ => rfl, rfl, congrArg nI (prR_congr eA), ⟨⟨rfl, rfl, rfl, rfl, rfl, rfl, rfl, rfl, rfl, ⟨_, rfl, b_M_stampMany⟩, rfl, ⟨0, rfl, by decide, by decide⟩, ⟨_, rfl, b_M_place0⟩, ⟨_, rfl, b_M_length0⟩, ⟨_, rfl, b_M_fault⟩, ⟨_, rfl, b_M_number0⟩, ⟨_, rfl, b_M_open⟩, ⟨_, rfl, b_M_codeMany⟩, ⟨_, rfl, b_M_waiting⟩, ⟨_, rfl, b_M_saidMany⟩, gT_mk rfl e_M_clauses b_M_clauses, rfl, rfl, rfl, rfl, rfl, rfl, rfl, rfl, rfl, rfl, rfl, rfl, rfl, rfl, rfl, rfl, rfl, ⟨_, rfl, b_M_newMany⟩, ⟨_, rfl, b_M_rounds⟩, ⟨_, rfl, b_M_stampFrom⟩, ⟨_, rfl, b_M_stampTimes⟩, ⟨_, rfl, b_M_lines⟩, ⟨_, rfl, b_M_spot0⟩, ⟨_, rfl, b_M_pullAcross⟩, ⟨_, rfl, b_M_pullAlong⟩, ⟨_, rfl, b_M_stepsNow⟩, ⟨_, rfl, b_M_fallenNow⟩, rfl, rfl, rfl, rfl, rfl, gT_mk rfl e_M_isKept b_M_isKept, trivial⟩, ⟨rfl, rfl, b_M_mintAt⟩, ⟨rfl, rfl, b_M_tape⟩, trivial⟩⟩

