def hc_1e922dc0a1 : List AC := [.inr (11, [.inr (.inr (some (.inl 1))), .inr (.inr (some (.inr 0))), .inr (.inr (some (.inr 1))), .inr (.inr (some (.inr 2))), .inr (.inr (some (.inr 3))), .inr (.inr (some (.inr 4))), .inr (.inr (some (.inr 5))), .inr (.inr (some (.inr 6))), .inl (0, 48), .inr (.inr (some (.inr 7))), .inl (0, 260), .inl (0, 240), .inl (0, 240), .inl (-2147483648, 2147483647), .inl (-2147483648, 2147483647), .inl (-2147483648, 2147483647), .inl (0, 260), .inl (0, 260), .inl (0, 16), .inr (.inr (some (.inr 200))), .inr (.inr (some (.inr 8))), .inr (.inr (some (.inr 9))), .inr (.inr (some (.inr 10))), .inr (.inr (some (.inr 11))), .inr (.inr (some (.inr 12))), .inr (.inr (some (.inr 13))), .inr (.inr (some (.inr 14))), .inr (.inr (some (.inr 15))), .inr (.inr (some (.inr 16))), .inr (.inr (some (.inr 17))), .inr (.inr (some (.inr 18))), .inr (.inr (some (.inr 19))), .inr (.inr (some (.inr 20))), .inr (.inr (some (.inr 21))), .inr (.inr (some (.inr 22))), .inr (.inr (some (.inr 23))), .inr (.inr (some (.inr 24))), .inl (-2147483648, 2147483647), .inl (-2147483648, 2147483647), .inl (-2147483648, 2147483647), .inl (-2147483648, 2147483647), .inl (-2147483648, 2147483647), .inl (-2147483648, 2147483647), .inl (-2147483648, 2147483647), .inl (-2147483648, 2147483647), .inl (-2147483648, 2147483647), .inl (-2147483648, 2147483647), .inr (.inr (some (.inr 25))), .inr (.inr (some (.inr 26))), .inr (.inr (some (.inr 27))), .inr (.inr (some (.inr 28))), .inr (.inr (some (.inr 29))), .inr (.inr (some (.inr 201)))]), .inl (3, 130, 0, 383)]
def hc_6663cf5628 : List AC := [.inr (11, [.inr (.inr (some (.inl 1))), .inr (.inr (some (.inr 0))), .inr (.inr (some (.inr 1))), .inr (.inr (some (.inl 2))), .inr (.inr (some (.inl 3))), .inr (.inr (some (.inl 4))), .inr (.inr (some (.inr 2))), .inr (.inr (some (.inr 3))), .inl (0, 48), .inr (.inr (some (.inr 4))), .inl (0, 260), .inl (0, 240), .inl (0, 240), .inl (-2147483648, 2147483647), .inl (-2147483648, 2147483647), .inl (-2147483648, 2147483647), .inl (0, 260), .inl (0, 260), .inl (0, 16), .inr (.inr (some (.inr 200))), .inr (.inr (some (.inr 5))), .inr (.inr (some (.inr 6))), .inr (.inr (some (.inr 7))), .inr (.inr (some (.inr 8))), .inr (.inr (some (.inr 9))), .inr (.inr (some (.inr 10))), .inr (.inr (some (.inr 11))), .inr (.inr (some (.inr 12))), .inr (.inr (some (.inr 13))), .inr (.inr (some (.inr 14))), .inr (.inr (some (.inr 15))), .inr (.inr (some (.inr 16))), .inr (.inr (some (.inl 5))), .inr (.inr (some (.inr 17))), .inr (.inr (some (.inr 18))), .inr (.inr (some (.inr 19))), .inr (.inr (some (.inr 20))), .inl (-2147483648, 2147483647), .inl (-2147483648, 2147483647), .inl (-2147483648, 2147483647), .inl (-2147483648, 2147483647), .inl (-2147483648, 2147483647), .inl (-2147483648, 2147483647), .inl (-2147483648, 2147483647), .inl (-2147483648, 2147483647), .inl (-2147483648, 2147483647), .inl (-2147483648, 2147483647), .inr (.inr (some (.inr 21))), .inr (.inr (some (.inr 22))), .inr (.inr (some (.inr 23))), .inr (.inr (some (.inr 24))), .inr (.inr (some (.inr 25))), .inr (.inr (some (.inr 201)))]), .inl (3, 130, 0, 383), .inl (0, 8, -1, 383), .inl (0, 48, 0, 7), .inl (0, 48, 0, 2), .inl (0, 9, -2147483648, 2147483647)]
def hc_d35f1c170f : List AC := [.inr (11, [.inr (.inr (some (.inl 1))), .inr (.inr (some (.inl 2))), .inr (.inr (some (.inr 0))), .inr (.inr (some (.inl 3))), .inr (.inr (some (.inl 4))), .inr (.inr (some (.inl 5))), .inr (.inr (some (.inl 6))), .inr (.inr (some (.inr 1))), .inl (0, 48), .inr (.inr (some (.inr 2))), .inl (0, 260), .inl (0, 240), .inl (0, 240), .inl (-2147483648, 2147483647), .inl (-2147483648, 2147483647), .inl (-2147483648, 2147483647), .inl (0, 260), .inl (0, 260), .inl (0, 16), .inr (.inr (some (.inr 200))), .inr (.inr (some (.inr 3))), .inr (.inr (some (.inr 4))), .inr (.inr (some (.inr 5))), .inr (.inr (some (.inr 6))), .inr (.inr (some (.inr 7))), .inr (.inr (some (.inr 8))), .inr (.inr (some (.inl 7))), .inr (.inr (some (.inl 8))), .inr (.inr (some (.inl 9))), .inr (.inr (some (.inl 10))), .inr (.inr (some (.inl 11))), .inr (.inr (some (.inl 12))), .inr (.inr (some (.inl 13))), .inr (.inr (some (.inr 9))), .inr (.inr (some (.inr 10))), .inr (.inr (some (.inr 11))), .inr (.inr (some (.inr 12))), .inl (-2147483648, 2147483647), .inl (-2147483648, 2147483647), .inl (-2147483648, 2147483647), .inl (-2147483648, 2147483647), .inl (-2147483648, 2147483647), .inl (-2147483648, 2147483647), .inl (-2147483648, 2147483647), .inl (-2147483648, 2147483647), .inl (-2147483648, 2147483647), .inl (-2147483648, 2147483647), .inr (.inr (some (.inl 14))), .inr (.inr (some (.inl 15))), .inr (.inr (some (.inr 13))), .inr (.inr (some (.inr 14))), .inr (.inr (some (.inr 15))), .inr (.inr (some (.inr 201)))]), .inl (600, 130, 0, 383), .inl (3, 130, 0, 383), .inl (0, 8, -1, 383), .inl (0, 48, 0, 7), .inl (0, 48, 0, 2), .inl (2, 384, 0, 1), .inl (5, 260, 100, 0), .inl (0, 16, -2147483648, 2147483647), .inl (5, 16, 101, 0), .inl (5, 16, 102, 0), .inl (5, 16, 103, 0), .inl (0, 260, -2147483648, 2147483647), .inl (0, 9, -2147483648, 2147483647), .inl (0, 48, -2147483648, 2147483647), .inl (2, 384, 0, 1)]
def hc_e429e84191 : List AC := [.inr (11, [.inr (.inr (some (.inl 1))), .inr (.inr (some (.inl 2))), .inr (.inr (some (.inr 0))), .inr (.inr (some (.inl 3))), .inr (.inr (some (.inl 4))), .inr (.inr (some (.inl 5))), .inr (.inr (some (.inl 6))), .inr (.inr (some (.inr 1))), .inl (0, 48), .inr (.inr (some (.inr 2))), .inl (0, 260), .inl (0, 240), .inl (0, 240), .inl (-2147483648, 2147483647), .inl (-2147483648, 2147483647), .inl (-2147483648, 2147483647), .inl (0, 260), .inl (0, 260), .inl (0, 16), .inr (.inr (some (.inr 200))), .inr (.inr (some (.inr 3))), .inr (.inr (some (.inr 4))), .inr (.inr (some (.inr 5))), .inr (.inr (some (.inr 6))), .inr (.inr (some (.inr 7))), .inr (.inr (some (.inr 8))), .inr (.inr (some (.inl 7))), .inr (.inr (some (.inl 8))), .inr (.inr (some (.inl 9))), .inr (.inr (some (.inl 10))), .inr (.inr (some (.inl 11))), .inr (.inr (some (.inl 12))), .inr (.inr (some (.inl 13))), .inr (.inr (some (.inr 9))), .inr (.inr (some (.inr 10))), .inr (.inr (some (.inr 11))), .inr (.inr (some (.inr 12))), .inl (-2147483648, 2147483647), .inl (-2147483648, 2147483647), .inl (-2147483648, 2147483647), .inl (-2147483648, 2147483647), .inl (-2147483648, 2147483647), .inl (-2147483648, 2147483647), .inl (-2147483648, 2147483647), .inl (-2147483648, 2147483647), .inl (-2147483648, 2147483647), .inl (-2147483648, 2147483647), .inr (.inr (some (.inl 14))), .inr (.inr (some (.inr 13))), .inr (.inr (some (.inr 14))), .inr (.inr (some (.inr 15))), .inr (.inr (some (.inr 16))), .inr (.inr (some (.inr 201)))]), .inl (600, 130, 0, 383), .inl (3, 130, 0, 383), .inl (0, 8, -1, 383), .inl (0, 48, 0, 7), .inl (0, 48, 0, 2), .inl (2, 384, 0, 1), .inl (5, 260, 100, 0), .inl (0, 16, -2147483648, 2147483647), .inl (5, 16, 101, 0), .inl (5, 16, 102, 0), .inl (5, 16, 103, 0), .inl (0, 260, -2147483648, 2147483647), .inl (0, 9, -2147483648, 2147483647), .inl (0, 48, -2147483648, 2147483647)]
def hc_93e39a2243 : List AC := [.inr (11, [.inr (.inr (some (.inl 1))), .inr (.inr (some (.inl 2))), .inr (.inr (some (.inr 0))), .inr (.inr (some (.inl 3))), .inr (.inr (some (.inl 4))), .inr (.inr (some (.inl 5))), .inr (.inr (some (.inl 6))), .inr (.inr (some (.inr 1))), .inl (0, 48), .inr (.inr (some (.inr 2))), .inl (0, 260), .inl (0, 240), .inl (0, 240), .inl (-2147483648, 2147483647), .inl (-2147483648, 2147483647), .inl (-2147483648, 2147483647), .inl (0, 260), .inl (0, 260), .inl (0, 16), .inr (.inr (some (.inr 200))), .inr (.inr (some (.inr 3))), .inr (.inr (some (.inr 4))), .inr (.inr (some (.inr 5))), .inr (.inr (some (.inr 6))), .inr (.inr (some (.inr 7))), .inr (.inr (some (.inr 8))), .inr (.inr (some (.inl 7))), .inr (.inr (some (.inl 8))), .inr (.inr (some (.inl 9))), .inr (.inr (some (.inl 10))), .inr (.inr (some (.inl 11))), .inr (.inr (some (.inl 12))), .inr (.inr (some (.inl 13))), .inr (.inr (some (.inr 9))), .inr (.inr (some (.inr 10))), .inr (.inr (some (.inr 11))), .inr (.inr (some (.inr 12))), .inl (-2147483648, 2147483647), .inl (-2147483648, 2147483647), .inl (-2147483648, 2147483647), .inl (-2147483648, 2147483647), .inl (-2147483648, 2147483647), .inl (-2147483648, 2147483647), .inl (-2147483648, 2147483647), .inl (-2147483648, 2147483647), .inl (-2147483648, 2147483647), .inl (-2147483648, 2147483647), .inr (.inr (some (.inl 14))), .inr (.inr (some (.inr 13))), .inr (.inr (some (.inr 14))), .inr (.inr (some (.inr 15))), .inr (.inr (some (.inr 16))), .inr (.inr (some (.inr 201)))]), .inl (3, 130, 0, 383), .inl (600, 130, 0, 383), .inl (0, 8, -1, 383), .inl (0, 48, 0, 7), .inl (0, 48, 0, 2), .inl (2, 384, 0, 1), .inl (5, 260, 100, 0), .inl (0, 16, -2147483648, 2147483647), .inl (5, 16, 101, 0), .inl (5, 16, 102, 0), .inl (5, 16, 103, 0), .inl (0, 260, -2147483648, 2147483647), .inl (0, 9, -2147483648, 2147483647), .inl (0, 48, -2147483648, 2147483647)]
def P_X12_isTold_w : List Nd := [(1, [], [1, 1]), (0, [0], [2]), (0, [7], [3]), (31, [], [14, 5, 0, 0, 3]), (10, [], [14, 5, 0]), (2, [], [6, 0]), (18, [], [7, 0, 11]), (0, [0], [8]), (1, [], [9, 1]), (6, [], [10, 0]), (20, [], [11, 0]), (0, [1], [12]), (11, [], [13, 14, 0]), (0, [1], [15]), (0, [0], [15]), (25, [], [])]
def C_X12_isTold_w : Con := ([.inr (.inr (some (.inl 0))), .inl (-2147483648, 2147483647)], hc_1e922dc0a1, [(some (0, 1), hc_1e922dc0a1)])
def G_X12_isTold_w : GCn := ([.inr (.inr (some (.inl 0))), .inl (-2147483648, 2147483647)], hc_1e922dc0a1, some (0, 1), hc_1e922dc0a1)
set_option maxRecDepth 100000 in
theorem s_X12_isTold_w {l : Launch} : conOk (MetP l 1 yX12_isTold cX12_isTold 2 (some .boolean) 0 0) C_X12_isTold_w := by
  intro τ hΦ as h ha hh
  refine m_X12_isTold  (by rw [all2_len ha]; exact Nat.le_of_ble_eq_true rfl) ?_
  · exact run0 (τ := τ) (P := P_X12_isTold_w) (CE := []) (CS := []) (Ms := []) (GS := [(([topA, .inl (0, 2147483647), .inl (-2147483648, 7)], [], some (0, 1), []), 0, 0, 7)]) (Mg := [MetP l 0 yX12_in cX12_in 3 (some .boolean) 0 0]) (T := ((C_X12_isTold_w.1.map some ++ List.replicate (2 - 2) none, [], C_X12_isTold_w.2.1) : Tg)) (sl := [(0, 1)]) (q := 18) (x := 0) (L := enL as 2) (st := []) (h := h) hΦ (fun j C e => match j, e with | _ + 0, e => (by cases e)) (fun j g e => match j, e with | 0, e => (by cases e; exact gd_in (0) (7)) | _ + 1, e => (by cases e)) (RS := C_X12_isTold_w.2.2) (Rv := (fun r h' => ∃ q, q ∈ C_X12_isTold_w.2.2 ∧ gR q.1 r ∧ all2 (gC ρ0 τ) q.2 h')) (GR := none) (M := (0, [])) (fun r h' q hq h1 h2 _ => ⟨q, hq, h1, h2⟩) ⟨door ha, trivial, hh⟩ (by decide +kernel)

set_option maxRecDepth 100000 in
theorem gd_X12_isTold_w {l : Launch} : gconOk (MetP l 1 yX12_isTold cX12_isTold 2 (some .boolean) 0 0) G_X12_isTold_w 1 0 7 := by
  intro τ hΦ as h ha hh
  refine m_X12_isTold (by rw [all2_len ha]; exact Nat.le_of_ble_eq_true rfl) ?_
  refine run0 (τ := τ) (P := P_X12_isTold_w) (CE := []) (CS := []) (Ms := []) (GS := [(([topA, .inl (0, 2147483647), .inl (-2147483648, 7)], [], some (0, 1), []), 0, 0, 7)]) (Mg := [MetP l 0 yX12_in cX12_in 3 (some .boolean) 0 0]) (T := ((C_X12_isTold_w.1.map some ++ List.replicate (2 - 2) none, [], C_X12_isTold_w.2.1) : Tg)) (sl := [(0, 1)]) (q := 18) (x := 0) (L := enL as 2) (st := []) (h := h) (RS := C_X12_isTold_w.2.2) (Rv := (fun r h' => (∃ x : Int32, r = some (.inl x) ∧ 0 ≤ x.toInt) ∧ all2 (gC ρ0 τ) G_X12_isTold_w.2.2.2 h' ∧ ∀ (x v : Int32), r = some (.inl x) → ¬ x = 0 → nth as 1 = some (.inl v) → 0 ≤ v.toInt ∧ v.toInt ≤ 7)) (GR := some (0, 7)) (M := (0, [(1, 0, 1)])) hΦ (fun j C e => match j, e with | _ + 0, e => (by cases e)) (fun j g e => match j, e with | 0, e => (by cases e; exact gd_in (0) (7)) | _ + 1, e => (by cases e)) (fun r h' q hq h1 h2 h3 => ?_) ⟨door ha, trivial, hh⟩ (by decide +kernel)
  cases List.mem_singleton.mp hq
  have h1 : ∃ x : Int32, r = some (.inl x) ∧ 0 ≤ x.toInt ∧ x.toInt ≤ 1 := h1
  refine ⟨h1.elim fun x hx => ⟨x, hx.1, hx.2.1⟩, h2, fun x v e hx hv => ?_⟩
  have q := h3 _ rfl x e hx
  have e2 : slotV (enL as 2) h 0 1 = v.toInt := slot_door hv
  have e3 : (0 : Int) + meV (enL as 2) h [(1, 0, 1)] = v.toInt := by
    show (0 : Int) + (1 * slotV (enL as 2) h 0 1 + 0) = _
    rw [e2]; omega
  rw [e3] at q
  exact q
def P_X12_reckon_a_w : List Nd := [(1, [], [1, 0]), (12, [2], [2, 40]), (1, [], [3, 1]), (1, [], [4, 2]), (6, [], [5, 0]), (24, [], []), (1, [], [7, 1]), (1, [], [8, 2]), (6, [], [9, 1]), (24, [], []), (1, [], [11, 1]), (1, [], [12, 2]), (6, [], [13, 2]), (24, [], []), (1, [], [15, 1]), (1, [], [16, 2]), (8, [], [17]), (24, [], []), (1, [], [19, 1]), (1, [], [20, 2]), (9, [], [21]), (24, [], []), (1, [], [23, 1]), (1, [], [24, 2]), (11, [], [26, 25, 2]), (0, [1], [27]), (0, [0], [27]), (24, [], []), (1, [], [29, 1]), (1, [], [30, 2]), (11, [], [32, 31, 4]), (0, [1], [33]), (0, [0], [33]), (24, [], []), (1, [], [35, 1]), (1, [], [36, 2]), (11, [], [37, 38, 0]), (0, [1], [39]), (0, [0], [39]), (24, [], []), (12, [3], [6, 41]), (12, [4], [10, 42]), (12, [5], [14, 43]), (12, [6], [18, 44]), (12, [7], [22, 45]), (12, [8], [28, 46]), (13, [], [34])]
def C_X12_reckon_a_w : Con := ([.inl (5, 6), .inl (-2147483648, 2147483647), .inl (1, 2147483647)], [], [(some (-2147483648, 2147483647), [])])
set_option maxRecDepth 100000 in
theorem s_X12_reckon_a_w {l : Launch} : conOk (MetP l 0 yX12_reckon cX12_reckon 3 (some .int) 0 0) C_X12_reckon_a_w := by
  intro τ hΦ as h ha hh
  refine m_X12_reckon  (by rw [all2_len ha]; exact Nat.le_of_ble_eq_true rfl) ?_
  · exact run0 (τ := τ) (P := P_X12_reckon_a_w) (CE := []) (CS := []) (Ms := []) (GS := []) (Mg := []) (T := ((C_X12_reckon_a_w.1.map some ++ List.replicate (3 - 3) none, [], C_X12_reckon_a_w.2.1) : Tg)) (sl := [(0, 0), (0, 1), (0, 2)]) (q := 49) (x := 0) (L := enL as 3) (st := []) (h := h) hΦ (fun j C e => match j, e with | _ + 0, e => (by cases e)) (fun j g e => match j, e with | _ + 0, e => (by cases e)) (RS := C_X12_reckon_a_w.2.2) (Rv := (fun r h' => ∃ q, q ∈ C_X12_reckon_a_w.2.2 ∧ gR q.1 r ∧ all2 (gC ρ0 τ) q.2 h')) (GR := none) (M := (0, [])) (fun r h' q hq h1 h2 _ => ⟨q, hq, h1, h2⟩) ⟨door ha, trivial, hh⟩ (by decide +kernel)

def P_X12_reckon_b_w : List Nd := [(1, [], [1, 0]), (12, [2], [2, 40]), (1, [], [3, 1]), (1, [], [4, 2]), (6, [], [5, 0]), (24, [], []), (1, [], [7, 1]), (1, [], [8, 2]), (6, [], [9, 1]), (24, [], []), (1, [], [11, 1]), (1, [], [12, 2]), (6, [], [13, 2]), (24, [], []), (1, [], [15, 1]), (1, [], [16, 2]), (8, [], [17]), (24, [], []), (1, [], [19, 1]), (1, [], [20, 2]), (9, [], [21]), (24, [], []), (1, [], [23, 1]), (1, [], [24, 2]), (11, [], [26, 25, 2]), (0, [1], [27]), (0, [0], [27]), (24, [], []), (1, [], [29, 1]), (1, [], [30, 2]), (11, [], [32, 31, 4]), (0, [1], [33]), (0, [0], [33]), (24, [], []), (1, [], [35, 1]), (1, [], [36, 2]), (11, [], [37, 38, 0]), (0, [1], [39]), (0, [0], [39]), (24, [], []), (12, [3], [6, 41]), (12, [4], [10, 42]), (12, [5], [14, 43]), (12, [6], [18, 44]), (12, [7], [22, 45]), (12, [8], [28, 46]), (13, [], [34])]
def C_X12_reckon_b_w : Con := ([.inl (5, 6), .inl (-2147483648, 2147483647), .inl (-2147483648, -1)], [], [(some (-2147483648, 2147483647), [])])
set_option maxRecDepth 100000 in
theorem s_X12_reckon_b_w {l : Launch} : conOk (MetP l 0 yX12_reckon cX12_reckon 3 (some .int) 0 0) C_X12_reckon_b_w := by
  intro τ hΦ as h ha hh
  refine m_X12_reckon  (by rw [all2_len ha]; exact Nat.le_of_ble_eq_true rfl) ?_
  · exact run0 (τ := τ) (P := P_X12_reckon_b_w) (CE := []) (CS := []) (Ms := []) (GS := []) (Mg := []) (T := ((C_X12_reckon_b_w.1.map some ++ List.replicate (3 - 3) none, [], C_X12_reckon_b_w.2.1) : Tg)) (sl := [(0, 0), (0, 1), (0, 2)]) (q := 49) (x := 0) (L := enL as 3) (st := []) (h := h) hΦ (fun j C e => match j, e with | _ + 0, e => (by cases e)) (fun j g e => match j, e with | _ + 0, e => (by cases e)) (RS := C_X12_reckon_b_w.2.2) (Rv := (fun r h' => ∃ q, q ∈ C_X12_reckon_b_w.2.2 ∧ gR q.1 r ∧ all2 (gC ρ0 τ) q.2 h')) (GR := none) (M := (0, [])) (fun r h' q hq h1 h2 _ => ⟨q, hq, h1, h2⟩) ⟨door ha, trivial, hh⟩ (by decide +kernel)

def P_X12_reckon_c_w : List Nd := [(1, [], [1, 0]), (12, [2], [2, 40]), (1, [], [3, 1]), (1, [], [4, 2]), (6, [], [5, 0]), (24, [], []), (1, [], [7, 1]), (1, [], [8, 2]), (6, [], [9, 1]), (24, [], []), (1, [], [11, 1]), (1, [], [12, 2]), (6, [], [13, 2]), (24, [], []), (1, [], [15, 1]), (1, [], [16, 2]), (8, [], [17]), (24, [], []), (1, [], [19, 1]), (1, [], [20, 2]), (9, [], [21]), (24, [], []), (1, [], [23, 1]), (1, [], [24, 2]), (11, [], [26, 25, 2]), (0, [1], [27]), (0, [0], [27]), (24, [], []), (1, [], [29, 1]), (1, [], [30, 2]), (11, [], [32, 31, 4]), (0, [1], [33]), (0, [0], [33]), (24, [], []), (1, [], [35, 1]), (1, [], [36, 2]), (11, [], [37, 38, 0]), (0, [1], [39]), (0, [0], [39]), (24, [], []), (12, [3], [6, 41]), (12, [4], [10, 42]), (12, [5], [14, 43]), (12, [6], [18, 44]), (12, [7], [22, 45]), (12, [8], [28, 46]), (13, [], [34])]
def C_X12_reckon_c_w : Con := ([.inl (2, 4), .inl (-2147483648, 2147483647), .inl (-2147483648, 2147483647)], [], [(some (-2147483648, 2147483647), [])])
set_option maxRecDepth 100000 in
theorem s_X12_reckon_c_w {l : Launch} : conOk (MetP l 0 yX12_reckon cX12_reckon 3 (some .int) 0 0) C_X12_reckon_c_w := by
  intro τ hΦ as h ha hh
  refine m_X12_reckon  (by rw [all2_len ha]; exact Nat.le_of_ble_eq_true rfl) ?_
  · exact run0 (τ := τ) (P := P_X12_reckon_c_w) (CE := []) (CS := []) (Ms := []) (GS := []) (Mg := []) (T := ((C_X12_reckon_c_w.1.map some ++ List.replicate (3 - 3) none, [], C_X12_reckon_c_w.2.1) : Tg)) (sl := [(0, 0), (0, 1), (0, 2)]) (q := 49) (x := 0) (L := enL as 3) (st := []) (h := h) hΦ (fun j C e => match j, e with | _ + 0, e => (by cases e)) (fun j g e => match j, e with | _ + 0, e => (by cases e)) (RS := C_X12_reckon_c_w.2.2) (Rv := (fun r h' => ∃ q, q ∈ C_X12_reckon_c_w.2.2 ∧ gR q.1 r ∧ all2 (gC ρ0 τ) q.2 h')) (GR := none) (M := (0, [])) (fun r h' q hq h1 h2 _ => ⟨q, hq, h1, h2⟩) ⟨door ha, trivial, hh⟩ (by decide +kernel)

def P_X12_reckon_d_w : List Nd := [(1, [], [1, 0]), (12, [2], [2, 40]), (1, [], [3, 1]), (1, [], [4, 2]), (6, [], [5, 0]), (24, [], []), (1, [], [7, 1]), (1, [], [8, 2]), (6, [], [9, 1]), (24, [], []), (1, [], [11, 1]), (1, [], [12, 2]), (6, [], [13, 2]), (24, [], []), (1, [], [15, 1]), (1, [], [16, 2]), (8, [], [17]), (24, [], []), (1, [], [19, 1]), (1, [], [20, 2]), (9, [], [21]), (24, [], []), (1, [], [23, 1]), (1, [], [24, 2]), (11, [], [26, 25, 2]), (0, [1], [27]), (0, [0], [27]), (24, [], []), (1, [], [29, 1]), (1, [], [30, 2]), (11, [], [32, 31, 4]), (0, [1], [33]), (0, [0], [33]), (24, [], []), (1, [], [35, 1]), (1, [], [36, 2]), (11, [], [37, 38, 0]), (0, [1], [39]), (0, [0], [39]), (24, [], []), (12, [3], [6, 41]), (12, [4], [10, 42]), (12, [5], [14, 43]), (12, [6], [18, 44]), (12, [7], [22, 45]), (12, [8], [28, 46]), (13, [], [34])]
def C_X12_reckon_d_w : Con := ([.inl (7, 9), .inl (-2147483648, 2147483647), .inl (-2147483648, 2147483647)], [], [(some (-2147483648, 2147483647), [])])
set_option maxRecDepth 100000 in
theorem s_X12_reckon_d_w {l : Launch} : conOk (MetP l 0 yX12_reckon cX12_reckon 3 (some .int) 0 0) C_X12_reckon_d_w := by
  intro τ hΦ as h ha hh
  refine m_X12_reckon  (by rw [all2_len ha]; exact Nat.le_of_ble_eq_true rfl) ?_
  · exact run0 (τ := τ) (P := P_X12_reckon_d_w) (CE := []) (CS := []) (Ms := []) (GS := []) (Mg := []) (T := ((C_X12_reckon_d_w.1.map some ++ List.replicate (3 - 3) none, [], C_X12_reckon_d_w.2.1) : Tg)) (sl := [(0, 0), (0, 1), (0, 2)]) (q := 49) (x := 0) (L := enL as 3) (st := []) (h := h) hΦ (fun j C e => match j, e with | _ + 0, e => (by cases e)) (fun j g e => match j, e with | _ + 0, e => (by cases e)) (RS := C_X12_reckon_d_w.2.2) (Rv := (fun r h' => ∃ q, q ∈ C_X12_reckon_d_w.2.2 ∧ gR q.1 r ∧ all2 (gC ρ0 τ) q.2 h')) (GR := none) (M := (0, [])) (fun r h' q hq h1 h2 _ => ⟨q, hq, h1, h2⟩) ⟨door ha, trivial, hh⟩ (by decide +kernel)

def P_X12_isStamp_w : List Nd := [(1, [], [1, 1]), (0, [0], [2]), (2, [], [3, 0]), (18, [], [4, 8, 11]), (0, [1], [5]), (6, [], [6, 1]), (26, [], [7, 0, 0, 3]), (25, [], [])]
def C_X12_isStamp_w : Con := ([.inr (.inr (some (.inl 0))), .inl (-2147483648, 2147483647)], hc_a45da04a91, [(some (0, 1), hc_a45da04a91)])
set_option maxRecDepth 100000 in
theorem s_X12_isStamp_w {l : Launch} : conOk (MetP l 1 yX12_isStamp cX12_isStamp 2 (some .boolean) 0 0) C_X12_isStamp_w := by
  intro τ hΦ as h ha hh
  refine m_X12_isStamp  (by rw [all2_len ha]; exact Nat.le_of_ble_eq_true rfl) ?_
  · exact run0 (τ := τ) (P := P_X12_isStamp_w) (CE := []) (CS := [C_X12_in]) (Ms := [MetP l 0 yX12_in cX12_in 3 (some .boolean) 0 0]) (GS := []) (Mg := []) (T := ((C_X12_isStamp_w.1.map some ++ List.replicate (2 - 2) none, [], C_X12_isStamp_w.2.1) : Tg)) (sl := [(0, 1)]) (q := 10) (x := 0) (L := enL as 2) (st := []) (h := h) hΦ (fun j C e => match j, e with | 0, e => (by cases e; exact s_X12_in) | _ + 1, e => (by cases e)) (fun j g e => match j, e with | _ + 0, e => (by cases e)) (RS := C_X12_isStamp_w.2.2) (Rv := (fun r h' => ∃ q, q ∈ C_X12_isStamp_w.2.2 ∧ gR q.1 r ∧ all2 (gC ρ0 τ) q.2 h')) (GR := none) (M := (0, [])) (fun r h' q hq h1 h2 _ => ⟨q, hq, h1, h2⟩) ⟨door ha, trivial, hh⟩ (by decide +kernel)

def G_X12_isStamp_w : GCn := ([.inr (.inr (some (.inl 0))), .inl (-2147483648, 2147483647)], hc_a45da04a91, some (0, 1), hc_a45da04a91)
set_option maxRecDepth 100000 in
theorem c_X12_isStamp_w {l : Launch} {M_now M_aside M_kept M_mintAt M_mintOf M_wholeOf M_isWall M_wasWall M_tape M_said M_waitsAt M_saidLetter M_saidFrom M_saidHalf M_saidTo M_codes M_clauseOf M_codeFrom M_codeHalf M_codeTo M_stack M_facts M_newStamps M_roundFrom M_roundAt M_roundTimes M_usesNow M_wasAt M_someOf M_fewestFor M_getsOf : List (Option Nat)} {M_stampMany M_taped M_place0 M_length0 M_fault M_number0 M_open M_codeMany M_waiting M_saidMany M_clauses M_newMany M_rounds M_stampFrom M_stampTimes M_lines M_spot0 M_pullAcross M_pullAlong M_stepsNow M_fallenNow M_isKept : Int32}  {x : Int32} : MetP l 1 yX12_isStamp cX12_isStamp 2 (some .boolean) 0 0 [.inr (some (.inl 0)), .inl x] [.inr (11, [.inr (some (.inr M_now)), .inr (some (.inr M_aside)), .inr (some (.inr M_kept)), .inr (some (.inr M_mintAt)), .inr (some (.inr M_mintOf)), .inr (some (.inr M_wholeOf)), .inr (some (.inr M_isWall)), .inr (some (.inr M_wasWall)), .inl M_stampMany, .inr (some (.inr M_tape)), .inl M_taped, .inl M_place0, .inl M_length0, .inl M_fault, .inl M_number0, .inl M_open, .inl M_codeMany, .inl M_waiting, .inl M_saidMany, .inl M_clauses, .inr (some (.inr M_said)), .inr (some (.inr M_waitsAt)), .inr (some (.inr M_saidLetter)), .inr (some (.inr M_saidFrom)), .inr (some (.inr M_saidHalf)), .inr (some (.inr M_saidTo)), .inr (some (.inr M_codes)), .inr (some (.inr M_clauseOf)), .inr (some (.inr M_codeFrom)), .inr (some (.inr M_codeHalf)), .inr (some (.inr M_codeTo)), .inr (some (.inr M_stack)), .inr (some (.inr M_facts)), .inr (some (.inr M_newStamps)), .inr (some (.inr M_roundFrom)), .inr (some (.inr M_roundAt)), .inr (some (.inr M_roundTimes)), .inl M_newMany, .inl M_rounds, .inl M_stampFrom, .inl M_stampTimes, .inl M_lines, .inl M_spot0, .inl M_pullAcross, .inl M_pullAlong, .inl M_stepsNow, .inl M_fallenNow, .inr (some (.inr M_usesNow)), .inr (some (.inr M_wasAt)), .inr (some (.inr M_someOf)), .inr (some (.inr M_fewestFor)), .inr (some (.inr M_getsOf)), .inl M_isKept])] (fun r h' => r = some (.inl (bI (0 ≤ x ∧ x ≤ f_sub M_stampMany 1))) ∧ h' = [.inr (11, [.inr (some (.inr M_now)), .inr (some (.inr M_aside)), .inr (some (.inr M_kept)), .inr (some (.inr M_mintAt)), .inr (some (.inr M_mintOf)), .inr (some (.inr M_wholeOf)), .inr (some (.inr M_isWall)), .inr (some (.inr M_wasWall)), .inl M_stampMany, .inr (some (.inr M_tape)), .inl M_taped, .inl M_place0, .inl M_length0, .inl M_fault, .inl M_number0, .inl M_open, .inl M_codeMany, .inl M_waiting, .inl M_saidMany, .inl M_clauses, .inr (some (.inr M_said)), .inr (some (.inr M_waitsAt)), .inr (some (.inr M_saidLetter)), .inr (some (.inr M_saidFrom)), .inr (some (.inr M_saidHalf)), .inr (some (.inr M_saidTo)), .inr (some (.inr M_codes)), .inr (some (.inr M_clauseOf)), .inr (some (.inr M_codeFrom)), .inr (some (.inr M_codeHalf)), .inr (some (.inr M_codeTo)), .inr (some (.inr M_stack)), .inr (some (.inr M_facts)), .inr (some (.inr M_newStamps)), .inr (some (.inr M_roundFrom)), .inr (some (.inr M_roundAt)), .inr (some (.inr M_roundTimes)), .inl M_newMany, .inl M_rounds, .inl M_stampFrom, .inl M_stampTimes, .inl M_lines, .inl M_spot0, .inl M_pullAcross, .inl M_pullAlong, .inl M_stepsNow, .inl M_fallenNow, .inr (some (.inr M_usesNow)), .inr (some (.inr M_wasAt)), .inr (some (.inr M_someOf)), .inr (some (.inr M_fewestFor)), .inr (some (.inr M_getsOf)), .inl M_isKept])]) := by
  refine m_X12_isStamp (Nat.le_of_ble_eq_true rfl) ?_
  refine call0 (c_in) rfl rfl ?_
  rintro r h' ⟨rfl, rfl⟩
  exact And.intro bI_01 ⟨rfl, rfl⟩
theorem gd_X12_isStamp_w {l : Launch} : gconOk (MetP l 1 yX12_isStamp cX12_isStamp 2 (some .boolean) 0 0) G_X12_isStamp_w 1 0 47 := by
  intro τ hΦ as h ha hh
  have z := all2_cons ha
  clear ha
  obtain ⟨v0, as, rfl, q0, ha⟩ := z
  cases (q0 : v0 = .inr (some (.inl 0)))
  have z := all2_cons ha
  clear ha
  obtain ⟨v0, as, rfl, q0, ha⟩ := z
  obtain ⟨x, rfl, b_x⟩ := q0
  cases as with
  | cons _ _ => exact ha.elim
  | nil =>
    have z := all2_cons hh
    clear hh
    obtain ⟨e0, h, rfl, g0, hh⟩ := z
    rcases e0 with ⟨t0, n0, f0⟩ | ⟨ci, fs⟩
    · exact g0.elim
    obtain ⟨rfl, gf⟩ := g0
    have z := all2_cons gf
    clear gf
    obtain ⟨v0, fs, rfl, q0, gf⟩ := z
    cases gT_r (τ := τ) (t := 0) (v := v0) rfl q0
    have z := all2_cons gf
    clear gf
    obtain ⟨v0, fs, rfl, q0, gf⟩ := z
    cases gT_r (τ := τ) (t := 1) (v := v0) rfl q0
    have z := all2_cons gf
    clear gf
    obtain ⟨v0, fs, rfl, q0, gf⟩ := z
    cases gT_r (τ := τ) (t := 2) (v := v0) rfl q0
    have z := all2_cons gf
    clear gf
    obtain ⟨v0, fs, rfl, q0, gf⟩ := z
    cases gT_r (τ := τ) (t := 3) (v := v0) rfl q0
    have z := all2_cons gf
    clear gf
    obtain ⟨v0, fs, rfl, q0, gf⟩ := z
    cases gT_r (τ := τ) (t := 4) (v := v0) rfl q0
    have z := all2_cons gf
    clear gf
    obtain ⟨v0, fs, rfl, q0, gf⟩ := z
    cases gT_r (τ := τ) (t := 5) (v := v0) rfl q0
    have z := all2_cons gf
    clear gf
    obtain ⟨v0, fs, rfl, q0, gf⟩ := z
    cases gT_r (τ := τ) (t := 6) (v := v0) rfl q0
    have z := all2_cons gf
    clear gf
    obtain ⟨v0, fs, rfl, q0, gf⟩ := z
    cases gT_r (τ := τ) (t := 7) (v := v0) rfl q0
    have z := all2_cons gf
    clear gf
    obtain ⟨v0, fs, rfl, q0, gf⟩ := z
    obtain ⟨M_stampMany, rfl, b_stampMany⟩ := q0
    have z := all2_cons gf
    clear gf
    obtain ⟨v0, fs, rfl, q0, gf⟩ := z
    cases gT_r (τ := τ) (t := 8) (v := v0) rfl q0
    have z := all2_cons gf
    clear gf
    obtain ⟨v0, fs, rfl, q0, gf⟩ := z
    obtain ⟨M_taped, rfl, b_taped⟩ := q0
    have z := all2_cons gf
    clear gf
    obtain ⟨v0, fs, rfl, q0, gf⟩ := z
    obtain ⟨M_place0, rfl, b_place0⟩ := q0
    have z := all2_cons gf
    clear gf
    obtain ⟨v0, fs, rfl, q0, gf⟩ := z
    obtain ⟨M_length0, rfl, b_length0⟩ := q0
    have z := all2_cons gf
    clear gf
    obtain ⟨v0, fs, rfl, q0, gf⟩ := z
    obtain ⟨M_fault, rfl, b_fault⟩ := q0
    have z := all2_cons gf
    clear gf
    obtain ⟨v0, fs, rfl, q0, gf⟩ := z
    obtain ⟨M_number0, rfl, b_number0⟩ := q0
    have z := all2_cons gf
    clear gf
    obtain ⟨v0, fs, rfl, q0, gf⟩ := z
    obtain ⟨M_open, rfl, b_open⟩ := q0
    have z := all2_cons gf
    clear gf
    obtain ⟨v0, fs, rfl, q0, gf⟩ := z
    obtain ⟨M_codeMany, rfl, b_codeMany⟩ := q0
    have z := all2_cons gf
    clear gf
    obtain ⟨v0, fs, rfl, q0, gf⟩ := z
    obtain ⟨M_waiting, rfl, b_waiting⟩ := q0
    have z := all2_cons gf
    clear gf
    obtain ⟨v0, fs, rfl, q0, gf⟩ := z
    obtain ⟨M_saidMany, rfl, b_saidMany⟩ := q0
    have z := all2_cons gf
    clear gf
    obtain ⟨v0, fs, rfl, q0, gf⟩ := z
    cases gT_i (τ := τ) (t := 200) (v := v0) rfl q0
    have z := all2_cons gf
    clear gf
    obtain ⟨v0, fs, rfl, q0, gf⟩ := z
    cases gT_r (τ := τ) (t := 9) (v := v0) rfl q0
    have z := all2_cons gf
    clear gf
    obtain ⟨v0, fs, rfl, q0, gf⟩ := z
    cases gT_r (τ := τ) (t := 10) (v := v0) rfl q0
    have z := all2_cons gf
    clear gf
    obtain ⟨v0, fs, rfl, q0, gf⟩ := z
    cases gT_r (τ := τ) (t := 11) (v := v0) rfl q0
    have z := all2_cons gf
    clear gf
    obtain ⟨v0, fs, rfl, q0, gf⟩ := z
    cases gT_r (τ := τ) (t := 12) (v := v0) rfl q0
    have z := all2_cons gf
    clear gf
    obtain ⟨v0, fs, rfl, q0, gf⟩ := z
    cases gT_r (τ := τ) (t := 13) (v := v0) rfl q0
    have z := all2_cons gf
    clear gf
    obtain ⟨v0, fs, rfl, q0, gf⟩ := z
    cases gT_r (τ := τ) (t := 14) (v := v0) rfl q0
    have z := all2_cons gf
    clear gf
    obtain ⟨v0, fs, rfl, q0, gf⟩ := z
    cases gT_r (τ := τ) (t := 15) (v := v0) rfl q0
    have z := all2_cons gf
    clear gf
    obtain ⟨v0, fs, rfl, q0, gf⟩ := z
    cases gT_r (τ := τ) (t := 16) (v := v0) rfl q0
    have z := all2_cons gf
    clear gf
    obtain ⟨v0, fs, rfl, q0, gf⟩ := z
    cases gT_r (τ := τ) (t := 17) (v := v0) rfl q0
    have z := all2_cons gf
    clear gf
    obtain ⟨v0, fs, rfl, q0, gf⟩ := z
    cases gT_r (τ := τ) (t := 18) (v := v0) rfl q0
    have z := all2_cons gf
    clear gf
    obtain ⟨v0, fs, rfl, q0, gf⟩ := z
    cases gT_r (τ := τ) (t := 19) (v := v0) rfl q0
    have z := all2_cons gf
    clear gf
    obtain ⟨v0, fs, rfl, q0, gf⟩ := z
    cases gT_r (τ := τ) (t := 20) (v := v0) rfl q0
    have z := all2_cons gf
    clear gf
    obtain ⟨v0, fs, rfl, q0, gf⟩ := z
    cases gT_r (τ := τ) (t := 21) (v := v0) rfl q0
    have z := all2_cons gf
    clear gf
    obtain ⟨v0, fs, rfl, q0, gf⟩ := z
    cases gT_r (τ := τ) (t := 22) (v := v0) rfl q0
    have z := all2_cons gf
    clear gf
    obtain ⟨v0, fs, rfl, q0, gf⟩ := z
    cases gT_r (τ := τ) (t := 23) (v := v0) rfl q0
    have z := all2_cons gf
    clear gf
    obtain ⟨v0, fs, rfl, q0, gf⟩ := z
    cases gT_r (τ := τ) (t := 24) (v := v0) rfl q0
    have z := all2_cons gf
    clear gf
    obtain ⟨v0, fs, rfl, q0, gf⟩ := z
    cases gT_r (τ := τ) (t := 25) (v := v0) rfl q0
    have z := all2_cons gf
    clear gf
    obtain ⟨v0, fs, rfl, q0, gf⟩ := z
    obtain ⟨M_newMany, rfl, b_newMany⟩ := q0
    have z := all2_cons gf
    clear gf
    obtain ⟨v0, fs, rfl, q0, gf⟩ := z
    obtain ⟨M_rounds, rfl, b_rounds⟩ := q0
    have z := all2_cons gf
    clear gf
    obtain ⟨v0, fs, rfl, q0, gf⟩ := z
    obtain ⟨M_stampFrom, rfl, b_stampFrom⟩ := q0
    have z := all2_cons gf
    clear gf
    obtain ⟨v0, fs, rfl, q0, gf⟩ := z
    obtain ⟨M_stampTimes, rfl, b_stampTimes⟩ := q0
    have z := all2_cons gf
    clear gf
    obtain ⟨v0, fs, rfl, q0, gf⟩ := z
    obtain ⟨M_lines, rfl, b_lines⟩ := q0
    have z := all2_cons gf
    clear gf
    obtain ⟨v0, fs, rfl, q0, gf⟩ := z
    obtain ⟨M_spot0, rfl, b_spot0⟩ := q0
    have z := all2_cons gf
    clear gf
    obtain ⟨v0, fs, rfl, q0, gf⟩ := z
    obtain ⟨M_pullAcross, rfl, b_pullAcross⟩ := q0
    have z := all2_cons gf
    clear gf
    obtain ⟨v0, fs, rfl, q0, gf⟩ := z
    obtain ⟨M_pullAlong, rfl, b_pullAlong⟩ := q0
    have z := all2_cons gf
    clear gf
    obtain ⟨v0, fs, rfl, q0, gf⟩ := z
    obtain ⟨M_stepsNow, rfl, b_stepsNow⟩ := q0
    have z := all2_cons gf
    clear gf
    obtain ⟨v0, fs, rfl, q0, gf⟩ := z
    obtain ⟨M_fallenNow, rfl, b_fallenNow⟩ := q0
    have z := all2_cons gf
    clear gf
    obtain ⟨v0, fs, rfl, q0, gf⟩ := z
    cases gT_r (τ := τ) (t := 26) (v := v0) rfl q0
    have z := all2_cons gf
    clear gf
    obtain ⟨v0, fs, rfl, q0, gf⟩ := z
    cases gT_r (τ := τ) (t := 27) (v := v0) rfl q0
    have z := all2_cons gf
    clear gf
    obtain ⟨v0, fs, rfl, q0, gf⟩ := z
    cases gT_r (τ := τ) (t := 28) (v := v0) rfl q0
    have z := all2_cons gf
    clear gf
    obtain ⟨v0, fs, rfl, q0, gf⟩ := z
    cases gT_r (τ := τ) (t := 29) (v := v0) rfl q0
    have z := all2_cons gf
    clear gf
    obtain ⟨v0, fs, rfl, q0, gf⟩ := z
    cases gT_r (τ := τ) (t := 30) (v := v0) rfl q0
    have z := all2_cons gf
    clear gf
    obtain ⟨v0, fs, rfl, q0, gf⟩ := z
    obtain ⟨M_isKept, rfl, e_isKept, b_isKept⟩ := gT_x (τ := τ) (t := 201) (v := v0) rfl q0
    cases fs with
    | cons _ _ => exact gf.elim
    | nil =>
      cases h with
      | cons _ _ => exact hh.elim
      | nil =>
      refine c_X12_isStamp_w.mono (fun r h' hp => ?_)
      obtain ⟨rfl, rfl⟩ := hp
      refine ⟨⟨_, rfl, w2⟩, ⟨⟨rfl, rfl, rfl, rfl, rfl, rfl, rfl, rfl, rfl, ⟨_, rfl, b_stampMany⟩, rfl, ⟨_, rfl, b_taped⟩, ⟨_, rfl, b_place0⟩, ⟨_, rfl, b_length0⟩, ⟨_, rfl, b_fault⟩, ⟨_, rfl, b_number0⟩, ⟨_, rfl, b_open⟩, ⟨_, rfl, b_codeMany⟩, ⟨_, rfl, b_waiting⟩, ⟨_, rfl, b_saidMany⟩, gT_mk (t := 200) rfl rfl ⟨i32lo _, i32hi _⟩, rfl, rfl, rfl, rfl, rfl, rfl, rfl, rfl, rfl, rfl, rfl, rfl, rfl, rfl, rfl, rfl, rfl, ⟨_, rfl, b_newMany⟩, ⟨_, rfl, b_rounds⟩, ⟨_, rfl, b_stampFrom⟩, ⟨_, rfl, b_stampTimes⟩, ⟨_, rfl, b_lines⟩, ⟨_, rfl, b_spot0⟩, ⟨_, rfl, b_pullAcross⟩, ⟨_, rfl, b_pullAlong⟩, ⟨_, rfl, b_stepsNow⟩, ⟨_, rfl, b_fallenNow⟩, rfl, rfl, rfl, rfl, rfl, gT_mk rfl e_isKept b_isKept, trivial⟩, trivial⟩, fun x' v e hn ev => ?_⟩
      cases e
      cases ev
      have b_stampMany : 0 ≤ M_stampMany.toInt ∧ M_stampMany.toInt ≤ 48 := b_stampMany
      have hp : 0 ≤ x ∧ x ≤ f_sub M_stampMany 1 := Classical.byContradiction fun q => hn (bI_f q)
      have q1 := Int32.le_iff_toInt_le.mp hp.1
      have q2 := Int32.le_iff_toInt_le.mp hp.2
      have e0 : (0 : Int32).toInt = 0 := rfl
      have e1 : (f_sub M_stampMany 1).toInt = M_stampMany.toInt - 1 := by
        show (M_stampMany - 1).toInt = _
        rw [Int32.toInt_sub]
        exact bm (by have : (1 : Int32).toInt = 1 := rfl; omega) (by have : (1 : Int32).toInt = 1 := rfl; omega)
      exact ⟨by omega, by omega⟩

def P_X12_sticks_w : List Nd := [(2, [], [1, 0]), (1, [], [2, 1]), (31, [1, -1, -2, -3, -4, -5, -6, -7, -8, -9, -10, -11, -12, -13, -14, -15, -16, -17, -18, -19, -20, -21, -22, -23, -24, -25, -26, -27, -28, -29, -30], [13, 4, 0, 12, 2, 0]), (10, [], [13, 4, 0]), (2, [], [5, 0]), (18, [], [6, 0, 11]), (0, [32], [7]), (1, [], [8, 1]), (6, [], [9, 0]), (20, [], [10, 0]), (1, [], [11, 2]), (11, [], [12, 13, 0]), (0, [1], [14]), (0, [0], [14]), (25, [], [])]
def C_X12_sticks_w : Con := ([.inr (.inr (some (.inl 0))), .inl (-2147483648, 2147483647), .inl (-2147483648, 2147483647)], hc_1e922dc0a1, [(some (0, 1), hc_1e922dc0a1)])
set_option maxRecDepth 100000 in
theorem s_X12_sticks_w {l : Launch} : conOk (MetP l 2 yX12_sticks cX12_sticks 3 (some .boolean) 0 0) C_X12_sticks_w := by
  intro τ hΦ as h ha hh
  refine m_X12_sticks  (by rw [all2_len ha]; exact Nat.le_of_ble_eq_true rfl) ?_
  · exact run0 (τ := τ) (P := P_X12_sticks_w) (CE := []) (CS := []) (Ms := []) (GS := [(G_X12_isStamp_w, 1, 0, 47)]) (Mg := [MetP l 1 yX12_isStamp cX12_isStamp 2 (some .boolean) 0 0]) (T := ((C_X12_sticks_w.1.map some ++ List.replicate (3 - 3) none, [], C_X12_sticks_w.2.1) : Tg)) (sl := [(0, 1), (0, 2)]) (q := 17) (x := 0) (L := enL as 3) (st := []) (h := h) hΦ (fun j C e => match j, e with | _ + 0, e => (by cases e)) (fun j g e => match j, e with | 0, e => (by cases e; exact gd_X12_isStamp_w) | _ + 1, e => (by cases e)) (RS := C_X12_sticks_w.2.2) (Rv := (fun r h' => ∃ q, q ∈ C_X12_sticks_w.2.2 ∧ gR q.1 r ∧ all2 (gC ρ0 τ) q.2 h')) (GR := none) (M := (0, [])) (fun r h' q hq h1 h2 _ => ⟨q, hq, h1, h2⟩) ⟨door ha, trivial, hh⟩ (by decide +kernel)

def P_X12_stampsOn_w : List Nd := [(0, [0], [1]), (3, [], [2, 2]), (0, [0], [3]), (3, [], [19, 3]), (1, [], [5, 3]), (0, [48], [6]), (11, [], [17, 7, 2]), (2, [], [8, 0]), (1, [], [9, 3]), (1, [], [10, 1]), (26, [-1, -2, -3, -4, -5, -6, -7, -8, -9, -10, -11, -12, -13, -14, -15, -16, -17, -18, -19, -20, -21, -22, -23, -24, -25, -26, -27, -28, -29, -30], [11, 0, 12, 3, 0, 1]), (10, [], [16, 12, 0]), (1, [], [13, 2]), (0, [1], [14]), (6, [], [15, 0]), (3, [], [16, 2]), (5, [1], [19, 3]), (1, [], [18, 2]), (24, [], []), (27, [], [0])]
def C_X12_stampsOn_w : Con := ([.inr (.inr (some (.inl 0))), .inl (-2147483648, 2147483647)], hc_1e922dc0a1, [(some (-2147483648, 2147483647), hc_1e922dc0a1)])
def T_X12_stampsOn_4_w : Tg × Me := (([some (.inr (.inr (some (.inl 0)))), some (.inl (-2147483648, 2147483647)), some (.inl (-2147483648, 2147483647)), some (.inl (0, 48))], [], hc_1e922dc0a1), (49, [(-1, 0, 3)]))
set_option maxRecDepth 100000 in
theorem s_X12_stampsOn_w {l : Launch} : conOk (MetP l 3 yX12_stampsOn cX12_stampsOn 4 (some .int) 0 0) C_X12_stampsOn_w := by
  intro τ hΦ as h ha hh
  refine m_X12_stampsOn (Jc τ T_X12_stampsOn_4_w) (by rw [all2_len ha]; exact Nat.le_of_ble_eq_true rfl) ?_ ?_
  · exact run0 (τ := τ) (P := P_X12_stampsOn_w) (CE := [T_X12_stampsOn_4_w]) (CS := [C_X12_sticks_w]) (Ms := [MetP l 2 yX12_sticks cX12_sticks 3 (some .boolean) 0 0]) (GS := []) (Mg := []) (T := ((C_X12_stampsOn_w.1.map some ++ List.replicate (4 - 2) none, [], C_X12_stampsOn_w.2.1) : Tg)) (sl := [(0, 1)]) (q := 22) (x := 0) (L := enL as 4) (st := []) (h := h) hΦ (fun j C e => match j, e with | 0, e => (by cases e; exact s_X12_sticks_w) | _ + 1, e => (by cases e)) (fun j g e => match j, e with | _ + 0, e => (by cases e)) (RS := C_X12_stampsOn_w.2.2) (Rv := (fun r h' => ∃ q, q ∈ C_X12_stampsOn_w.2.2 ∧ gR q.1 r ∧ all2 (gC ρ0 τ) q.2 h')) (GR := none) (M := (0, [])) (fun r h' q hq h1 h2 _ => ⟨q, hq, h1, h2⟩) ⟨door ha, trivial, hh⟩ (by decide +kernel)
  · intro μ L st h hJ
    exact runL (τ := τ) (P := P_X12_stampsOn_w) (CE := [T_X12_stampsOn_4_w]) (CS := [C_X12_sticks_w]) (Ms := [MetP l 2 yX12_sticks cX12_sticks 3 (some .boolean) 0 0]) (GS := []) (Mg := []) (Q := T_X12_stampsOn_4_w) (sl := [(0, 1), (0, 2), (0, 3)]) (q := 22) (x := 4) hΦ (fun j C e => match j, e with | 0, e => (by cases e; exact s_X12_sticks_w) | _ + 1, e => (by cases e)) (fun j g e => match j, e with | _ + 0, e => (by cases e)) (RS := C_X12_stampsOn_w.2.2) (Rv := (fun r h' => ∃ q, q ∈ C_X12_stampsOn_w.2.2 ∧ gR q.1 r ∧ all2 (gC ρ0 τ) q.2 h')) (fun r h' q hq h1 h2 => ⟨q, hq, h1, h2⟩) hJ (by decide +kernel)

def P_X12_feels_w : List Nd := [(2, [], [1, 0]), (18, [], [2, 3, 11]), (2, [], [3, 0]), (18, [], [4, 4, 11]), (1, [], [5, 1]), (20, [], [6, 0]), (20, [], [7, 0]), (3, [], [8, 4]), (2, [], [9, 0]), (18, [], [10, 0, 11]), (0, [8], [11]), (1, [], [12, 2]), (6, [], [13, 0]), (20, [], [14, 0]), (3, [], [15, 5]), (2, [], [16, 0]), (18, [], [17, 32, 11]), (0, [0], [18]), (1, [], [19, 1]), (21, [], [20, 0]), (2, [], [21, 0]), (18, [], [22, 32, 11]), (0, [1], [23]), (2, [], [24, 0]), (18, [], [25, 4, 11]), (1, [], [26, 1]), (20, [], [27, 0]), (21, [], [28, 0]), (2, [], [29, 0]), (18, [], [30, 32, 11]), (0, [2], [31]), (2, [], [32, 0]), (18, [], [33, 5, 11]), (1, [], [34, 1]), (20, [], [35, 0]), (21, [], [36, 0]), (2, [], [37, 0]), (18, [], [38, 32, 11]), (0, [3], [39]), (2, [], [40, 0]), (18, [], [41, 0, 11]), (0, [80], [42]), (1, [], [43, 1]), (6, [], [44, 0]), (20, [], [45, 0]), (21, [], [46, 0]), (2, [], [47, 0]), (18, [], [48, 32, 11]), (0, [4], [49]), (1, [], [50, 4]), (0, [24], [51]), (9, [], [52]), (1, [], [53, 5]), (0, [24], [54]), (9, [], [55]), (6, [], [56, 1]), (26, [], [57, 0, 0, 1]), (1, [], [58, 4]), (0, [24], [59]), (8, [], [60]), (1, [], [61, 5]), (0, [24], [62]), (8, [], [63]), (6, [], [64, 1]), (26, [], [65, 0, 0, 1]), (6, [], [66, 0]), (21, [], [67, 0]), (2, [], [68, 0]), (18, [], [69, 32, 11]), (0, [5], [70]), (2, [], [71, 0]), (1, [], [72, 2]), (26, [-1, -2, 2, 3, 4, -3, -4, -5, -6, -7, -8, -9, -10, -11, -12, -13, -14, -15, -16, -17, 5, -18, -19, -20, -21, -22, -23, -24, -25, -26], [73, 1, 12, 2, 0, 1]), (21, [], [74, 0]), (2, [], [75, 0]), (18, [], [76, 32, 11]), (0, [6], [77]), (1, [], [78, 2]), (21, [], [79, 0]), (2, [], [80, 0]), (18, [], [81, 32, 11]), (0, [7], [82]), (2, [], [83, 0]), (18, [], [84, 0, 11]), (0, [128], [85]), (20, [], [86, 0]), (0, [100], [87]), (9, [], [88]), (21, [], [89, 0]), (2, [], [90, 0]), (18, [], [91, 32, 11]), (0, [8], [92]), (1, [], [93, 3]), (21, [], [94, 0]), (23, [], [])]
def C_X12_feels_w : Con := ([.inr (.inr (some (.inl 0))), .inl (0, 47), .inl (0, 7), .inl (-2147483648, 2147483647)], hc_6663cf5628, [(none, hc_6663cf5628)])
set_option maxRecDepth 100000 in
theorem s_X12_feels_w {l : Launch} : conOk (MetP l 4 yX12_feels cX12_feels 6 none 0 0) C_X12_feels_w := by
  intro τ hΦ as h ha hh
  refine m_X12_feels  (by rw [all2_len ha]; exact Nat.le_of_ble_eq_true rfl) ?_
  · exact run0 (τ := τ) (P := P_X12_feels_w) (CE := []) (CS := [C_X12_size, C_X12_stampsOn_w]) (Ms := [MetP l 0 yX12_size cX12_size 1 (some .int) 0 0, MetP l 3 yX12_stampsOn cX12_stampsOn 4 (some .int) 0 0]) (GS := []) (Mg := []) (T := ((C_X12_feels_w.1.map some ++ List.replicate (6 - 4) none, [], C_X12_feels_w.2.1) : Tg)) (sl := [(0, 1), (0, 2), (0, 3)]) (q := 97) (x := 0) (L := enL as 6) (st := []) (h := h) hΦ (fun j C e => match j, e with | 0, e => (by cases e; exact s_X12_size) | 1, e => (by cases e; exact s_X12_stampsOn_w) | _ + 2, e => (by cases e)) (fun j g e => match j, e with | _ + 0, e => (by cases e)) (RS := C_X12_feels_w.2.2) (Rv := (fun r h' => ∃ q, q ∈ C_X12_feels_w.2.2 ∧ gR q.1 r ∧ all2 (gC ρ0 τ) q.2 h')) (GR := none) (M := (0, [])) (fun r h' q hq h1 h2 _ => ⟨q, hq, h1, h2⟩) ⟨door ha, trivial, hh⟩ (by decide +kernel)

def P_X12_dayGoes_w : List Nd := [(0, [0], [1]), (3, [], [24, 1]), (1, [], [3, 1]), (0, [8], [4]), (11, [], [13, 5, 2]), (2, [], [6, 0]), (1, [], [7, 1]), (31, [-1, -2, 2, 3, 4, 5, -3, -4, -5, -6, -7, -8, -9, -10, 6, 7, 8, 9, 10, 11, 12, -11, -12, -13, -14, 13, -15, -16, -17, -18], [12, 9, 0, 12, 2, 0, 1]), (10, [], [12, 9, 0]), (2, [], [10, 0]), (1, [], [11, 1]), (26, [-1, -2, -3, -4, -5, -6, -7, -8, -9, -10, -11, -12, -13, -14, -15, -16, -17, -18], [12, 0, 12, 2, 0, 1, 2, 3, 4, 5, 6, 7, 8, 9, 10, 11, 12, 13]), (5, [1], [24, 1]), (2, [], [14, 0]), (18, [], [15, 0, 11]), (0, [128], [16]), (2, [], [17, 0]), (18, [], [18, 0, 11]), (0, [128], [19]), (20, [], [20, 0]), (0, [1], [21]), (6, [], [22, 0]), (21, [], [23, 0]), (23, [], []), (27, [], [0])]
def C_X12_dayGoes_w : Con := ([.inr (.inr (some (.inl 0)))], hc_ddb9fdd2d1, [(none, hc_ddb9fdd2d1)])
def T_X12_dayGoes_2_w : Tg × Me := (([some (.inr (.inr (some (.inl 0)))), some (.inl (0, 8))], [], hc_ddb9fdd2d1), (9, [(-1, 0, 1)]))
set_option maxRecDepth 100000 in
theorem s_X12_dayGoes_w {l : Launch} : conOk (MetP l 7 yX12_dayGoes cX12_dayGoes 2 none 0 0) C_X12_dayGoes_w := by
  intro τ hΦ as h ha hh
  refine m_X12_dayGoes (Jc τ T_X12_dayGoes_2_w) (by rw [all2_len ha]; exact Nat.le_of_ble_eq_true rfl) ?_ ?_
  · exact run0 (τ := τ) (P := P_X12_dayGoes_w) (CE := [T_X12_dayGoes_2_w]) (CS := [C_X12_letterGoes]) (Ms := [MetP l 6 yX12_letterGoes cX12_letterGoes 5 none 0 0]) (GS := [(G_X12_isTold_w, 1, 0, 7)]) (Mg := [MetP l 1 yX12_isTold cX12_isTold 2 (some .boolean) 0 0]) (T := ((C_X12_dayGoes_w.1.map some ++ List.replicate (2 - 1) none, [], C_X12_dayGoes_w.2.1) : Tg)) (sl := []) (q := 27) (x := 0) (L := enL as 2) (st := []) (h := h) hΦ (fun j C e => match j, e with | 0, e => (by cases e; exact s_X12_letterGoes) | _ + 1, e => (by cases e)) (fun j g e => match j, e with | 0, e => (by cases e; exact gd_X12_isTold_w) | _ + 1, e => (by cases e)) (RS := C_X12_dayGoes_w.2.2) (Rv := (fun r h' => ∃ q, q ∈ C_X12_dayGoes_w.2.2 ∧ gR q.1 r ∧ all2 (gC ρ0 τ) q.2 h')) (GR := none) (M := (0, [])) (fun r h' q hq h1 h2 _ => ⟨q, hq, h1, h2⟩) ⟨door ha, trivial, hh⟩ (by decide +kernel)
  · intro μ L st h hJ
    exact runL (τ := τ) (P := P_X12_dayGoes_w) (CE := [T_X12_dayGoes_2_w]) (CS := [C_X12_letterGoes]) (Ms := [MetP l 6 yX12_letterGoes cX12_letterGoes 5 none 0 0]) (GS := [(G_X12_isTold_w, 1, 0, 7)]) (Mg := [MetP l 1 yX12_isTold cX12_isTold 2 (some .boolean) 0 0]) (Q := T_X12_dayGoes_2_w) (sl := [(0, 1)]) (q := 27) (x := 2) hΦ (fun j C e => match j, e with | 0, e => (by cases e; exact s_X12_letterGoes) | _ + 1, e => (by cases e)) (fun j g e => match j, e with | 0, e => (by cases e; exact gd_X12_isTold_w) | _ + 1, e => (by cases e)) (RS := C_X12_dayGoes_w.2.2) (Rv := (fun r h' => ∃ q, q ∈ C_X12_dayGoes_w.2.2 ∧ gR q.1 r ∧ all2 (gC ρ0 τ) q.2 h')) (fun r h' q hq h1 h2 => ⟨q, hq, h1, h2⟩) hJ (by decide +kernel)

def P_X12_daysGo_w : List Nd := [(2, [], [1, 0]), (0, [0], [2]), (19, [], [3, 45, 0, 11]), (2, [], [4, 0]), (0, [0], [5]), (19, [], [6, 46, 0, 11]), (0, [0], [7]), (3, [], [21, 2]), (1, [], [9, 2]), (1, [], [10, 1]), (11, [], [20, 11, 2]), (2, [], [12, 0]), (18, [], [13, 0, 11]), (0, [128], [14]), (20, [], [15, 0]), (0, [9999], [16]), (11, [], [20, 17, 2]), (2, [], [18, 0]), (26, [-1, -2, -3, -4, -5, -6, -7, -8, -9, -10, -11, -12, -13, -14, -15, -16, -17, -18], [19, 0, 12, 1, 0, 1, 2, 3, 4, 5, 6, 7, 8, 9, 10, 11, 12, 13]), (5, [1], [21, 2]), (23, [], []), (27, [], [0])]
def C_X12_daysGo_w : Con := ([.inr (.inr (some (.inl 0))), .inl (-2147483648, 2147483647)], hc_ddb9fdd2d1, [(none, hc_ddb9fdd2d1)])
def T_X12_daysGo_12_w : Tg × Me := (([some (.inr (.inr (some (.inl 0)))), some (.inl (-2147483648, 2147483647)), some (.inl (0, 2147483647))], [], hc_ddb9fdd2d1), (2147483648, [(-1, 0, 2)]))
set_option maxRecDepth 100000 in
theorem s_X12_daysGo_w {l : Launch} : conOk (MetP l 8 yX12_daysGo cX12_daysGo 3 none 0 0) C_X12_daysGo_w := by
  intro τ hΦ as h ha hh
  refine m_X12_daysGo (Jc τ T_X12_daysGo_12_w) (by rw [all2_len ha]; exact Nat.le_of_ble_eq_true rfl) ?_ ?_
  · exact run0 (τ := τ) (P := P_X12_daysGo_w) (CE := [T_X12_daysGo_12_w]) (CS := [C_X12_dayGoes_w]) (Ms := [MetP l 7 yX12_dayGoes cX12_dayGoes 2 none 0 0]) (GS := []) (Mg := []) (T := ((C_X12_daysGo_w.1.map some ++ List.replicate (3 - 2) none, [], C_X12_daysGo_w.2.1) : Tg)) (sl := [(0, 1)]) (q := 24) (x := 0) (L := enL as 3) (st := []) (h := h) hΦ (fun j C e => match j, e with | 0, e => (by cases e; exact s_X12_dayGoes_w) | _ + 1, e => (by cases e)) (fun j g e => match j, e with | _ + 0, e => (by cases e)) (RS := C_X12_daysGo_w.2.2) (Rv := (fun r h' => ∃ q, q ∈ C_X12_daysGo_w.2.2 ∧ gR q.1 r ∧ all2 (gC ρ0 τ) q.2 h')) (GR := none) (M := (0, [])) (fun r h' q hq h1 h2 _ => ⟨q, hq, h1, h2⟩) ⟨door ha, trivial, hh⟩ (by decide +kernel)
  · intro μ L st h hJ
    exact runL (τ := τ) (P := P_X12_daysGo_w) (CE := [T_X12_daysGo_12_w]) (CS := [C_X12_dayGoes_w]) (Ms := [MetP l 7 yX12_dayGoes cX12_dayGoes 2 none 0 0]) (GS := []) (Mg := []) (Q := T_X12_daysGo_12_w) (sl := [(0, 1), (0, 2)]) (q := 24) (x := 8) hΦ (fun j C e => match j, e with | 0, e => (by cases e; exact s_X12_dayGoes_w) | _ + 1, e => (by cases e)) (fun j g e => match j, e with | _ + 0, e => (by cases e)) (RS := C_X12_daysGo_w.2.2) (Rv := (fun r h' => ∃ q, q ∈ C_X12_daysGo_w.2.2 ∧ gR q.1 r ∧ all2 (gC ρ0 τ) q.2 h')) (fun r h' q hq h1 h2 => ⟨q, hq, h1, h2⟩) hJ (by decide +kernel)

def P_X12_walledSet_w : List Nd := [(0, [0], [1]), (3, [], [2, 1]), (0, [0], [3]), (3, [], [28, 2]), (1, [], [5, 2]), (0, [8], [6]), (11, [], [26, 7, 2]), (2, [], [8, 0]), (1, [], [9, 2]), (31, [-1, -2, -3, -4, -5, -6, -7, -8, -9, -10, -11, -12, -13, -14, -15, -16, -17, -18, -19, -20, -21, -22, -23, -24, -25, -26, -27, -28, -29, -30], [25, 11, 0, 12, 2, 0, 1]), (10, [], [25, 11, 0]), (2, [], [12, 0]), (18, [], [13, 0, 11]), (0, [24], [14]), (1, [], [15, 2]), (6, [], [16, 0]), (20, [], [17, 0]), (0, [1], [18]), (11, [], [19, 25, 0]), (1, [], [20, 1]), (0, [1], [21]), (1, [], [22, 2]), (6, [], [23, 6]), (6, [], [24, 4]), (3, [], [25, 1]), (5, [1], [28, 2]), (1, [], [27, 1]), (24, [], []), (27, [], [0])]
def C_X12_walledSet_w : Con := ([.inr (.inr (some (.inl 0)))], hc_1e922dc0a1, [(some (-2147483648, 2147483647), hc_1e922dc0a1)])
def T_X12_walledSet_4_w : Tg × Me := (([some (.inr (.inr (some (.inl 0)))), some (.inl (-2147483648, 2147483647)), some (.inl (0, 8))], [], hc_1e922dc0a1), (9, [(-1, 0, 2)]))
set_option maxRecDepth 100000 in
theorem s_X12_walledSet_w {l : Launch} : conOk (MetP l 2 yX12_walledSet cX12_walledSet 3 (some .int) 0 0) C_X12_walledSet_w := by
  intro τ hΦ as h ha hh
  refine m_X12_walledSet (Jc τ T_X12_walledSet_4_w) (by rw [all2_len ha]; exact Nat.le_of_ble_eq_true rfl) ?_ ?_
  · exact run0 (τ := τ) (P := P_X12_walledSet_w) (CE := [T_X12_walledSet_4_w]) (CS := []) (Ms := []) (GS := [(G_X12_isTold_w, 1, 0, 7)]) (Mg := [MetP l 1 yX12_isTold cX12_isTold 2 (some .boolean) 0 0]) (T := ((C_X12_walledSet_w.1.map some ++ List.replicate (3 - 1) none, [], C_X12_walledSet_w.2.1) : Tg)) (sl := []) (q := 31) (x := 0) (L := enL as 3) (st := []) (h := h) hΦ (fun j C e => match j, e with | _ + 0, e => (by cases e)) (fun j g e => match j, e with | 0, e => (by cases e; exact gd_X12_isTold_w) | _ + 1, e => (by cases e)) (RS := C_X12_walledSet_w.2.2) (Rv := (fun r h' => ∃ q, q ∈ C_X12_walledSet_w.2.2 ∧ gR q.1 r ∧ all2 (gC ρ0 τ) q.2 h')) (GR := none) (M := (0, [])) (fun r h' q hq h1 h2 _ => ⟨q, hq, h1, h2⟩) ⟨door ha, trivial, hh⟩ (by decide +kernel)
  · intro μ L st h hJ
    exact runL (τ := τ) (P := P_X12_walledSet_w) (CE := [T_X12_walledSet_4_w]) (CS := []) (Ms := []) (GS := [(G_X12_isTold_w, 1, 0, 7)]) (Mg := [MetP l 1 yX12_isTold cX12_isTold 2 (some .boolean) 0 0]) (Q := T_X12_walledSet_4_w) (sl := [(0, 1), (0, 2)]) (q := 31) (x := 4) hΦ (fun j C e => match j, e with | _ + 0, e => (by cases e)) (fun j g e => match j, e with | 0, e => (by cases e; exact gd_X12_isTold_w) | _ + 1, e => (by cases e)) (RS := C_X12_walledSet_w.2.2) (Rv := (fun r h' => ∃ q, q ∈ C_X12_walledSet_w.2.2 ∧ gR q.1 r ∧ all2 (gC ρ0 τ) q.2 h')) (fun r h' q hq h1 h2 => ⟨q, hq, h1, h2⟩) hJ (by decide +kernel)

def P_X12_again : List Nd := [(2, [], [1, 0]), (1, [], [2, 1]), (31, [2, -1, 3, 4, 5, 6, -2, -3, -4, -5, -6, -7, -8, -9, 7, 8, 9, 10, 11, 12, 13, -10, -11, -12, -13, 14, 15, -14, -15, -16], [9, 4, 0, 12, 2, 0, 1]), (10, [], [9, 4, 0]), (1, [], [5, 2]), (0, [1], [6]), (0, [100], [7]), (31, [], [9, 11, 1, 0, 3]), (10, [], [9, 11, 0]), (0, [-1], [10]), (24, [], []), (2, [], [12, 0]), (18, [], [13, 0, 11]), (2, [], [14, 0]), (18, [], [15, 1, 11]), (26, [], [16, 0, 0, 2, 1, 2]), (0, [0], [17]), (3, [], [100, 3]), (1, [], [19, 3]), (0, [384], [20]), (11, [], [27, 21, 2]), (2, [], [22, 0]), (18, [], [23, 48, 11]), (1, [], [24, 3]), (0, [0], [25]), (21, [], [26, 1, 2]), (5, [1], [100, 3]), (2, [], [28, 0]), (18, [], [29, 48, 11]), (2, [], [30, 0]), (18, [], [31, 0, 11]), (0, [8], [32]), (1, [], [33, 1]), (6, [], [34, 0]), (20, [], [35, 0]), (0, [1], [36]), (21, [], [37, 1, 2]), (0, [-2], [38]), (3, [], [39, 3]), (0, [1], [40]), (3, [], [101, 4]), (1, [], [42, 4]), (1, [], [43, 2]), (11, [], [93, 44, 3]), (2, [], [45, 0]), (18, [], [46, 0, 11]), (0, [128], [47]), (20, [], [48, 0]), (0, [9999], [49]), (11, [], [93, 50, 2]), (1, [], [51, 3]), (0, [-2], [52]), (11, [], [53, 93, 0]), (2, [], [54, 0]), (18, [], [55, 0, 11]), (0, [8], [56]), (1, [], [57, 1]), (6, [], [58, 0]), (20, [], [59, 0]), (3, [], [60, 5]), (2, [], [61, 0]), (26, [2, -1, -2, -3, -4, -5, -6, -7, -8, -9, -10, -11, -12, -13, 15, -14, -15, -16], [62, 1, 12, 1, 0, 1, 3, 4, 5, 6, 7, 8, 9, 10, 11, 12, 13, 14]), (2, [], [63, 0]), (18, [], [64, 0, 11]), (0, [8], [65]), (1, [], [66, 1]), (6, [], [67, 0]), (20, [], [68, 0]), (1, [], [69, 5]), (11, [], [82, 70, 0]), (2, [], [71, 0]), (18, [], [72, 48, 11]), (2, [], [73, 0]), (18, [], [74, 0, 11]), (0, [8], [75]), (1, [], [76, 1]), (6, [], [77, 0]), (20, [], [78, 0]), (20, [], [79, 1, 2]), (10, [], [82, 80, 0]), (1, [], [81, 4]), (3, [], [82, 3]), (2, [], [83, 0]), (18, [], [84, 48, 11]), (2, [], [85, 0]), (18, [], [86, 0, 11]), (0, [8], [87]), (1, [], [88, 1]), (6, [], [89, 0]), (20, [], [90, 0]), (0, [1], [91]), (21, [], [92, 1, 2]), (5, [1], [101, 4]), (2, [], [94, 0]), (18, [], [95, 1, 11]), (2, [], [96, 0]), (18, [], [97, 0, 11]), (26, [], [98, 0, 0, 2, 2, 1]), (1, [], [99, 3]), (24, [], []), (27, [], [0]), (27, [], [1])]
def C_X12_again : Con := ([.inr (.inr (some (.inl 0))), .inl (-2147483648, 2147483647), .inl (-2147483648, 2147483647)], hc_d35f1c170f, [(some (-2147483648, 2147483647), hc_d35f1c170f)])
def T_X12_again_33 : Tg × Me := (([some (.inr (.inr (some (.inl 0)))), some (.inl (0, 7)), some (.inl (1, 100)), some (.inl (0, 384)), none, none], [], [.inr (11, [.inr (.inr (some (.inl 1))), .inr (.inr (some (.inl 2))), .inr (.inr (some (.inr 0))), .inr (.inr (some (.inl 3))), .inr (.inr (some (.inl 4))), .inr (.inr (some (.inl 5))), .inr (.inr (some (.inl 6))), .inr (.inr (some (.inr 1))), .inl (0, 48), .inr (.inr (some (.inr 2))), .inl (0, 260), .inl (0, 240), .inl (0, 240), .inl (-2147483648, 2147483647), .inl (-2147483648, 2147483647), .inl (-2147483648, 2147483647), .inl (0, 260), .inl (0, 260), .inl (0, 16), .inr (.inr (some (.inr 200))), .inr (.inr (some (.inr 3))), .inr (.inr (some (.inr 4))), .inr (.inr (some (.inr 5))), .inr (.inr (some (.inr 6))), .inr (.inr (some (.inr 7))), .inr (.inr (some (.inr 8))), .inr (.inr (some (.inl 7))), .inr (.inr (some (.inl 8))), .inr (.inr (some (.inl 9))), .inr (.inr (some (.inl 10))), .inr (.inr (some (.inl 11))), .inr (.inr (some (.inl 12))), .inr (.inr (some (.inl 13))), .inr (.inr (some (.inr 9))), .inr (.inr (some (.inr 10))), .inr (.inr (some (.inr 11))), .inr (.inr (some (.inr 12))), .inl (-2147483648, 2147483647), .inl (-2147483648, 2147483647), .inl (-2147483648, 2147483647), .inl (-2147483648, 2147483647), .inl (-2147483648, 2147483647), .inl (-2147483648, 2147483647), .inl (-2147483648, 2147483647), .inl (-2147483648, 2147483647), .inl (-2147483648, 2147483647), .inl (-2147483648, 2147483647), .inr (.inr (some (.inl 14))), .inr (.inr (some (.inl 15))), .inr (.inr (some (.inr 13))), .inr (.inr (some (.inr 14))), .inr (.inr (some (.inr 15))), .inr (.inr (some (.inr 201)))]), .inl (600, 130, 0, 383), .inl (600, 130, 0, 383), .inl (0, 8, -1, 383), .inl (0, 48, 0, 7), .inl (0, 48, 0, 2), .inl (2, 384, 0, 1), .inl (5, 260, 100, 0), .inl (0, 16, -2147483648, 2147483647), .inl (5, 16, 101, 0), .inl (5, 16, 102, 0), .inl (5, 16, 103, 0), .inl (0, 260, -2147483648, 2147483647), .inl (0, 9, -2147483648, 2147483647), .inl (0, 48, -2147483648, 2147483647), .inl (2, 384, 0, 1)]), (641, [(-1, 0, 3)]))
def T_X12_again_74 : Tg × Me := (([some (.inr (.inr (some (.inl 0)))), some (.inl (0, 7)), some (.inl (1, 100)), some (.inl (-2, 100)), some (.inl (1, 255)), none], [], [.inr (11, [.inr (.inr (some (.inl 1))), .inr (.inr (some (.inl 2))), .inr (.inr (some (.inr 0))), .inr (.inr (some (.inl 3))), .inr (.inr (some (.inl 4))), .inr (.inr (some (.inl 5))), .inr (.inr (some (.inl 6))), .inr (.inr (some (.inr 1))), .inl (0, 48), .inr (.inr (some (.inr 2))), .inl (0, 260), .inl (0, 240), .inl (0, 240), .inl (-2147483648, 2147483647), .inl (-2147483648, 2147483647), .inl (-2147483648, 2147483647), .inl (0, 260), .inl (0, 260), .inl (0, 16), .inr (.inr (some (.inr 200))), .inr (.inr (some (.inr 3))), .inr (.inr (some (.inr 4))), .inr (.inr (some (.inr 5))), .inr (.inr (some (.inr 6))), .inr (.inr (some (.inr 7))), .inr (.inr (some (.inr 8))), .inr (.inr (some (.inl 7))), .inr (.inr (some (.inl 8))), .inr (.inr (some (.inl 9))), .inr (.inr (some (.inl 10))), .inr (.inr (some (.inl 11))), .inr (.inr (some (.inl 12))), .inr (.inr (some (.inl 13))), .inr (.inr (some (.inr 9))), .inr (.inr (some (.inr 10))), .inr (.inr (some (.inr 11))), .inr (.inr (some (.inr 12))), .inl (-2147483648, 2147483647), .inl (-2147483648, 2147483647), .inl (-2147483648, 2147483647), .inl (-2147483648, 2147483647), .inl (-2147483648, 2147483647), .inl (-2147483648, 2147483647), .inl (-2147483648, 2147483647), .inl (-2147483648, 2147483647), .inl (-2147483648, 2147483647), .inl (-2147483648, 2147483647), .inr (.inr (some (.inl 14))), .inr (.inr (some (.inl 15))), .inr (.inr (some (.inr 13))), .inr (.inr (some (.inr 14))), .inr (.inr (some (.inr 15))), .inr (.inr (some (.inr 201)))]), .inl (3, 130, 0, 383), .inl (600, 130, 0, 383), .inl (0, 8, -1, 383), .inl (0, 48, 0, 7), .inl (0, 48, 0, 2), .inl (2, 384, 0, 1), .inl (5, 260, 100, 0), .inl (0, 16, -2147483648, 2147483647), .inl (5, 16, 101, 0), .inl (5, 16, 102, 0), .inl (5, 16, 103, 0), .inl (0, 260, -2147483648, 2147483647), .inl (0, 9, -2147483648, 2147483647), .inl (0, 48, -2147483648, 2147483647), .inl (2, 384, 0, 1)]), (256, [(-1, 0, 4)]))
set_option maxRecDepth 100000 in
theorem s_X12_again {l : Launch} : conOk (MetP l 8 yX12_again cX12_again 6 (some .int) 0 0) C_X12_again := by
  intro τ hΦ as h ha hh
  refine m_X12_again (Jc τ T_X12_again_33) (Jc τ T_X12_again_74) (by rw [all2_len ha]; exact Nat.le_of_ble_eq_true rfl) ?_ ?_ ?_
  · exact run0 (τ := τ) (P := P_X12_again) (CE := [T_X12_again_33, T_X12_again_74]) (CS := [C_X12_copies_d, C_X12_dayGoes_w]) (Ms := [MetP l 0 yX12_copies cX12_copies 3 none 0 0, MetP l 7 yX12_dayGoes cX12_dayGoes 2 none 0 0]) (GS := [(G_X12_isTold, 1, 0, 7), (([topA, .inl (1, 2147483647), .inl (-2147483648, 100)], [], some (0, 1), []), 0, 1, 100)]) (Mg := [MetP l 1 yX12_isTold cX12_isTold 2 (some .boolean) 0 0, MetP l 0 yX12_in cX12_in 3 (some .boolean) 0 0]) (T := ((C_X12_again.1.map some ++ List.replicate (6 - 3) none, [], C_X12_again.2.1) : Tg)) (sl := [(0, 1), (0, 2)]) (q := 104) (x := 0) (L := enL as 6) (st := []) (h := h) hΦ (fun j C e => match j, e with | 0, e => (by cases e; exact s_X12_copies_d) | 1, e => (by cases e; exact s_X12_dayGoes_w) | _ + 2, e => (by cases e)) (fun j g e => match j, e with | 0, e => (by cases e; exact gd_X12_isTold) | 1, e => (by cases e; exact gd_in (1) (100)) | _ + 2, e => (by cases e)) (RS := C_X12_again.2.2) (Rv := (fun r h' => ∃ q, q ∈ C_X12_again.2.2 ∧ gR q.1 r ∧ all2 (gC ρ0 τ) q.2 h')) (GR := none) (M := (0, [])) (fun r h' q hq h1 h2 _ => ⟨q, hq, h1, h2⟩) ⟨door ha, trivial, hh⟩ (by decide +kernel)
  · intro μ L st h hJ
    exact runL (τ := τ) (P := P_X12_again) (CE := [T_X12_again_33, T_X12_again_74]) (CS := [C_X12_copies_d, C_X12_dayGoes_w]) (Ms := [MetP l 0 yX12_copies cX12_copies 3 none 0 0, MetP l 7 yX12_dayGoes cX12_dayGoes 2 none 0 0]) (GS := [(G_X12_isTold, 1, 0, 7), (([topA, .inl (1, 2147483647), .inl (-2147483648, 100)], [], some (0, 1), []), 0, 1, 100)]) (Mg := [MetP l 1 yX12_isTold cX12_isTold 2 (some .boolean) 0 0, MetP l 0 yX12_in cX12_in 3 (some .boolean) 0 0]) (Q := T_X12_again_33) (sl := [(0, 1), (0, 2), (0, 3)]) (q := 104) (x := 18) hΦ (fun j C e => match j, e with | 0, e => (by cases e; exact s_X12_copies_d) | 1, e => (by cases e; exact s_X12_dayGoes_w) | _ + 2, e => (by cases e)) (fun j g e => match j, e with | 0, e => (by cases e; exact gd_X12_isTold) | 1, e => (by cases e; exact gd_in (1) (100)) | _ + 2, e => (by cases e)) (RS := C_X12_again.2.2) (Rv := (fun r h' => ∃ q, q ∈ C_X12_again.2.2 ∧ gR q.1 r ∧ all2 (gC ρ0 τ) q.2 h')) (fun r h' q hq h1 h2 => ⟨q, hq, h1, h2⟩) hJ (by decide +kernel)
  · intro μ L st h hJ
    exact runL (τ := τ) (P := P_X12_again) (CE := [T_X12_again_33, T_X12_again_74]) (CS := [C_X12_copies_d, C_X12_dayGoes_w]) (Ms := [MetP l 0 yX12_copies cX12_copies 3 none 0 0, MetP l 7 yX12_dayGoes cX12_dayGoes 2 none 0 0]) (GS := [(G_X12_isTold, 1, 0, 7), (([topA, .inl (1, 2147483647), .inl (-2147483648, 100)], [], some (0, 1), []), 0, 1, 100)]) (Mg := [MetP l 1 yX12_isTold cX12_isTold 2 (some .boolean) 0 0, MetP l 0 yX12_in cX12_in 3 (some .boolean) 0 0]) (Q := T_X12_again_74) (sl := [(0, 1), (0, 2), (0, 3), (0, 4)]) (q := 104) (x := 41) hΦ (fun j C e => match j, e with | 0, e => (by cases e; exact s_X12_copies_d) | 1, e => (by cases e; exact s_X12_dayGoes_w) | _ + 2, e => (by cases e)) (fun j g e => match j, e with | 0, e => (by cases e; exact gd_X12_isTold) | 1, e => (by cases e; exact gd_in (1) (100)) | _ + 2, e => (by cases e)) (RS := C_X12_again.2.2) (Rv := (fun r h' => ∃ q, q ∈ C_X12_again.2.2 ∧ gR q.1 r ∧ all2 (gC ρ0 τ) q.2 h')) (fun r h' q hq h1 h2 => ⟨q, hq, h1, h2⟩) hJ (by decide +kernel)

def P_X12_atRest : List Nd := [(2, [], [1, 0]), (1, [], [2, 1]), (31, [2, -1, 3, 4, 5, 6, -2, -3, -4, -5, -6, -7, -8, -9, 7, 8, 9, 10, 11, 12, 13, -10, -11, -12, -13, 14, -14, -15, -16, -17], [9, 4, 0, 12, 2, 0, 1]), (10, [], [9, 4, 0]), (1, [], [5, 2]), (0, [1], [6]), (0, [100], [7]), (31, [], [9, 11, 1, 0, 3]), (10, [], [9, 11, 0]), (0, [-1], [10]), (24, [], []), (2, [], [12, 0]), (18, [], [13, 0, 11]), (2, [], [14, 0]), (18, [], [15, 1, 11]), (26, [], [16, 0, 0, 2, 1, 2]), (0, [0], [17]), (3, [], [18, 3]), (0, [1], [19]), (3, [], [56, 4]), (1, [], [21, 4]), (1, [], [22, 2]), (11, [], [49, 23, 3]), (2, [], [24, 0]), (18, [], [25, 0, 11]), (0, [128], [26]), (20, [], [27, 0]), (0, [9999], [28]), (11, [], [49, 29, 2]), (2, [], [30, 0]), (18, [], [31, 0, 11]), (0, [8], [32]), (1, [], [33, 1]), (6, [], [34, 0]), (20, [], [35, 0]), (3, [], [36, 5]), (2, [], [37, 0]), (26, [2, -1, -2, -3, -4, -5, -6, -7, -8, -9, -10, -11, -12, -13, -14, -15, -16, -17], [38, 1, 12, 1, 0, 1, 3, 4, 5, 6, 7, 8, 9, 10, 11, 12, 13, 14]), (2, [], [39, 0]), (18, [], [40, 0, 11]), (0, [8], [41]), (1, [], [42, 1]), (6, [], [43, 0]), (20, [], [44, 0]), (1, [], [45, 5]), (11, [], [48, 46, 0]), (1, [], [47, 4]), (3, [], [48, 3]), (5, [1], [56, 4]), (2, [], [50, 0]), (18, [], [51, 1, 11]), (2, [], [52, 0]), (18, [], [53, 0, 11]), (26, [], [54, 0, 0, 2, 2, 1]), (1, [], [55, 3]), (24, [], []), (27, [], [0])]
def C_X12_atRest : Con := ([.inr (.inr (some (.inl 0))), .inl (-2147483648, 2147483647), .inl (-2147483648, 2147483647)], hc_e429e84191, [(some (-2147483648, 2147483647), hc_e429e84191)])
def T_X12_atRest_36 : Tg × Me := (([some (.inr (.inr (some (.inl 0)))), some (.inl (0, 7)), some (.inl (1, 100)), some (.inl (0, 100)), some (.inl (1, 255)), none], [], hc_93e39a2243), (256, [(-1, 0, 4)]))
set_option maxRecDepth 100000 in
theorem s_X12_atRest {l : Launch} : conOk (MetP l 8 yX12_atRest cX12_atRest 6 (some .int) 0 0) C_X12_atRest := by
  intro τ hΦ as h ha hh
  refine m_X12_atRest (Jc τ T_X12_atRest_36) (by rw [all2_len ha]; exact Nat.le_of_ble_eq_true rfl) ?_ ?_
  · exact run0 (τ := τ) (P := P_X12_atRest) (CE := [T_X12_atRest_36]) (CS := [C_X12_copies_d, C_X12_dayGoes_w]) (Ms := [MetP l 0 yX12_copies cX12_copies 3 none 0 0, MetP l 7 yX12_dayGoes cX12_dayGoes 2 none 0 0]) (GS := [(G_X12_isTold, 1, 0, 7), (([topA, .inl (1, 2147483647), .inl (-2147483648, 100)], [], some (0, 1), []), 0, 1, 100)]) (Mg := [MetP l 1 yX12_isTold cX12_isTold 2 (some .boolean) 0 0, MetP l 0 yX12_in cX12_in 3 (some .boolean) 0 0]) (T := ((C_X12_atRest.1.map some ++ List.replicate (6 - 3) none, [], C_X12_atRest.2.1) : Tg)) (sl := [(0, 1), (0, 2)]) (q := 59) (x := 0) (L := enL as 6) (st := []) (h := h) hΦ (fun j C e => match j, e with | 0, e => (by cases e; exact s_X12_copies_d) | 1, e => (by cases e; exact s_X12_dayGoes_w) | _ + 2, e => (by cases e)) (fun j g e => match j, e with | 0, e => (by cases e; exact gd_X12_isTold) | 1, e => (by cases e; exact gd_in (1) (100)) | _ + 2, e => (by cases e)) (RS := C_X12_atRest.2.2) (Rv := (fun r h' => ∃ q, q ∈ C_X12_atRest.2.2 ∧ gR q.1 r ∧ all2 (gC ρ0 τ) q.2 h')) (GR := none) (M := (0, [])) (fun r h' q hq h1 h2 _ => ⟨q, hq, h1, h2⟩) ⟨door ha, trivial, hh⟩ (by decide +kernel)
  · intro μ L st h hJ
    exact runL (τ := τ) (P := P_X12_atRest) (CE := [T_X12_atRest_36]) (CS := [C_X12_copies_d, C_X12_dayGoes_w]) (Ms := [MetP l 0 yX12_copies cX12_copies 3 none 0 0, MetP l 7 yX12_dayGoes cX12_dayGoes 2 none 0 0]) (GS := [(G_X12_isTold, 1, 0, 7), (([topA, .inl (1, 2147483647), .inl (-2147483648, 100)], [], some (0, 1), []), 0, 1, 100)]) (Mg := [MetP l 1 yX12_isTold cX12_isTold 2 (some .boolean) 0 0, MetP l 0 yX12_in cX12_in 3 (some .boolean) 0 0]) (Q := T_X12_atRest_36) (sl := [(0, 1), (0, 2), (0, 3), (0, 4)]) (q := 59) (x := 20) hΦ (fun j C e => match j, e with | 0, e => (by cases e; exact s_X12_copies_d) | 1, e => (by cases e; exact s_X12_dayGoes_w) | _ + 2, e => (by cases e)) (fun j g e => match j, e with | 0, e => (by cases e; exact gd_X12_isTold) | 1, e => (by cases e; exact gd_in (1) (100)) | _ + 2, e => (by cases e)) (RS := C_X12_atRest.2.2) (Rv := (fun r h' => ∃ q, q ∈ C_X12_atRest.2.2 ∧ gR q.1 r ∧ all2 (gC ρ0 τ) q.2 h')) (fun r h' q hq h1 h2 => ⟨q, hq, h1, h2⟩) hJ (by decide +kernel)

def P_X12_comes : List Nd := [(2, [], [1, 0]), (1, [], [2, 1]), (31, [2, -1, 3, 4, 5, 6, -2, -3, -4, -5, -6, -7, -8, -9, 7, 8, 9, 10, 11, 12, 13, -10, -11, -12, -13, 14, -14, -15, -16, -17], [12, 4, 0, 12, 2, 0, 1]), (10, [], [12, 4, 0]), (1, [], [5, 2]), (31, [], [12, 7, 1, 0, 1]), (10, [], [12, 7, 0]), (1, [], [8, 3]), (0, [1], [9]), (0, [100], [10]), (31, [], [12, 14, 2, 0, 3]), (10, [], [12, 14, 0]), (0, [-1], [13]), (24, [], []), (2, [], [15, 0]), (18, [], [16, 0, 11]), (2, [], [17, 0]), (18, [], [18, 1, 11]), (26, [], [19, 0, 0, 2, 1, 2]), (0, [0], [20]), (3, [], [65, 4]), (2, [], [22, 0]), (18, [], [23, 0, 11]), (0, [8], [24]), (1, [], [25, 1]), (6, [], [26, 0]), (20, [], [27, 0]), (1, [], [28, 2]), (11, [], [44, 29, 0]), (1, [], [30, 4]), (1, [], [31, 3]), (11, [], [44, 32, 2]), (2, [], [33, 0]), (18, [], [34, 0, 11]), (0, [128], [35]), (20, [], [36, 0]), (0, [9999], [37]), (11, [], [44, 38, 2]), (2, [], [39, 0]), (26, [2, -1, -2, -3, -4, -5, -6, -7, -8, -9, -10, -11, -12, -13, -14, -15, -16, -17], [40, 1, 12, 1, 0, 1, 3, 4, 5, 6, 7, 8, 9, 10, 11, 12, 13, 14]), (1, [], [41, 4]), (0, [1], [42]), (6, [], [43, 0]), (3, [], [65, 4]), (2, [], [45, 0]), (18, [], [46, 0, 11]), (0, [8], [47]), (1, [], [48, 1]), (6, [], [49, 0]), (20, [], [50, 0]), (1, [], [51, 2]), (11, [], [52, 53, 0]), (0, [1], [54]), (0, [0], [54]), (3, [], [55, 5]), (2, [], [56, 0]), (18, [], [57, 1, 11]), (2, [], [58, 0]), (18, [], [59, 0, 11]), (26, [], [60, 0, 0, 2, 2, 1]), (1, [], [61, 5]), (10, [], [63, 62, 0]), (1, [], [64, 4]), (0, [-2], [64]), (24, [], []), (27, [], [0])]
def C_X12_comes : Con := ([.inr (.inr (some (.inl 0))), .inl (-2147483648, 2147483647), .inl (-2147483648, 2147483647), .inl (-2147483648, 2147483647)], hc_e429e84191, [(some (-2147483648, 2147483647), hc_e429e84191)])
def T_X12_comes_41 : Tg × Me := (([some (.inr (.inr (some (.inl 0)))), some (.inl (0, 7)), some (.inl (0, 383)), some (.inl (1, 100)), some (.inl (0, 100)), none], [], hc_93e39a2243), (101, [(-1, 0, 4)]))
set_option maxRecDepth 100000 in
theorem s_X12_comes {l : Launch} : conOk (MetP l 8 yX12_comes cX12_comes 6 (some .int) 0 0) C_X12_comes := by
  intro τ hΦ as h ha hh
  refine m_X12_comes (Jc τ T_X12_comes_41) (by rw [all2_len ha]; exact Nat.le_of_ble_eq_true rfl) ?_ ?_
  · exact run0 (τ := τ) (P := P_X12_comes) (CE := [T_X12_comes_41]) (CS := [C_X12_copies_d, C_X12_dayGoes_w]) (Ms := [MetP l 0 yX12_copies cX12_copies 3 none 0 0, MetP l 7 yX12_dayGoes cX12_dayGoes 2 none 0 0]) (GS := [(G_X12_isTold, 1, 0, 7), (([topA], [], some (0, 1), []), 0, 0, 383), (([topA, .inl (1, 2147483647), .inl (-2147483648, 100)], [], some (0, 1), []), 0, 1, 100)]) (Mg := [MetP l 1 yX12_isTold cX12_isTold 2 (some .boolean) 0 0, MetP l 1 yX12_isPlace cX12_isPlace 1 (some .boolean) 0 0, MetP l 0 yX12_in cX12_in 3 (some .boolean) 0 0]) (T := ((C_X12_comes.1.map some ++ List.replicate (6 - 4) none, [], C_X12_comes.2.1) : Tg)) (sl := [(0, 1), (0, 2), (0, 3)]) (q := 68) (x := 0) (L := enL as 6) (st := []) (h := h) hΦ (fun j C e => match j, e with | 0, e => (by cases e; exact s_X12_copies_d) | 1, e => (by cases e; exact s_X12_dayGoes_w) | _ + 2, e => (by cases e)) (fun j g e => match j, e with | 0, e => (by cases e; exact gd_X12_isTold) | 1, e => (by cases e; exact gd_misPlace) | 2, e => (by cases e; exact gd_in (1) (100)) | _ + 3, e => (by cases e)) (RS := C_X12_comes.2.2) (Rv := (fun r h' => ∃ q, q ∈ C_X12_comes.2.2 ∧ gR q.1 r ∧ all2 (gC ρ0 τ) q.2 h')) (GR := none) (M := (0, [])) (fun r h' q hq h1 h2 _ => ⟨q, hq, h1, h2⟩) ⟨door ha, trivial, hh⟩ (by decide +kernel)
  · intro μ L st h hJ
    exact runL (τ := τ) (P := P_X12_comes) (CE := [T_X12_comes_41]) (CS := [C_X12_copies_d, C_X12_dayGoes_w]) (Ms := [MetP l 0 yX12_copies cX12_copies 3 none 0 0, MetP l 7 yX12_dayGoes cX12_dayGoes 2 none 0 0]) (GS := [(G_X12_isTold, 1, 0, 7), (([topA], [], some (0, 1), []), 0, 0, 383), (([topA, .inl (1, 2147483647), .inl (-2147483648, 100)], [], some (0, 1), []), 0, 1, 100)]) (Mg := [MetP l 1 yX12_isTold cX12_isTold 2 (some .boolean) 0 0, MetP l 1 yX12_isPlace cX12_isPlace 1 (some .boolean) 0 0, MetP l 0 yX12_in cX12_in 3 (some .boolean) 0 0]) (Q := T_X12_comes_41) (sl := [(0, 1), (0, 2), (0, 3), (0, 4)]) (q := 68) (x := 21) hΦ (fun j C e => match j, e with | 0, e => (by cases e; exact s_X12_copies_d) | 1, e => (by cases e; exact s_X12_dayGoes_w) | _ + 2, e => (by cases e)) (fun j g e => match j, e with | 0, e => (by cases e; exact gd_X12_isTold) | 1, e => (by cases e; exact gd_misPlace) | 2, e => (by cases e; exact gd_in (1) (100)) | _ + 3, e => (by cases e)) (RS := C_X12_comes.2.2) (Rv := (fun r h' => ∃ q, q ∈ C_X12_comes.2.2 ∧ gR q.1 r ∧ all2 (gC ρ0 τ) q.2 h')) (fun r h' q hq h1 h2 => ⟨q, hq, h1, h2⟩) hJ (by decide +kernel)

def P_X12_franked : List Nd := [(1, [], [1, 1]), (0, [1], [2]), (0, [5], [3]), (31, [], [14, 5, 0, 0, 3]), (10, [], [14, 5, 0]), (1, [], [6, 2]), (0, [1], [7]), (0, [600], [8]), (31, [], [14, 10, 1, 0, 3]), (10, [], [14, 10, 0]), (1, [], [11, 1]), (2, [], [12, 0]), (18, [], [13, 10, 11]), (11, [], [16, 14, 4]), (0, [-1], [15]), (24, [], []), (2, [], [17, 0]), (1, [], [18, 1]), (26, [-1, -2, -3, -4, -5, -6, -7, -8, -9, -10, -11, -12, -13, -14, -15, -16, -17, -18, -19, -20, -21, -22, -23, -24, -25, -26, -27, -28, -29], [19, 0, 12, 2, 0, 1, 2]), (10, [], [20, 22, 0]), (0, [-2], [21]), (24, [], []), (2, [], [23, 0]), (18, [], [24, 50, 11]), (1, [], [25, 2]), (20, [], [26, 0]), (0, [1000000], [27]), (11, [], [29, 28, 1]), (0, [-3], [33]), (2, [], [30, 0]), (18, [], [31, 50, 11]), (1, [], [32, 2]), (20, [], [33, 0]), (24, [], [])]
def C_X12_franked : Con := ([.inr (.inr (some (.inl 0))), .inl (-2147483648, 2147483647), .inl (-2147483648, 2147483647)], hc_34d438202a, [(some (-2147483648, 2147483647), hc_34d438202a)])
set_option maxRecDepth 100000 in
theorem s_X12_franked {l : Launch} : conOk (MetP l 2 yX12_franked cX12_franked 3 (some .int) 0 0) C_X12_franked := by
  intro τ hΦ as h ha hh
  refine m_X12_franked  (by rw [all2_len ha]; exact Nat.le_of_ble_eq_true rfl) ?_
  · exact run0 (τ := τ) (P := P_X12_franked) (CE := []) (CS := [C_X12_laysFewest]) (Ms := [MetP l 1 yX12_laysFewest cX12_laysFewest 4 (some .boolean) 0 0]) (GS := [(([topA, .inl (1, 2147483647), .inl (-2147483648, 5)], [], some (0, 1), []), 0, 1, 5), (([topA, .inl (1, 2147483647), .inl (-2147483648, 600)], [], some (0, 1), []), 0, 1, 600)]) (Mg := [MetP l 0 yX12_in cX12_in 3 (some .boolean) 0 0, MetP l 0 yX12_in cX12_in 3 (some .boolean) 0 0]) (T := ((C_X12_franked.1.map some ++ List.replicate (3 - 3) none, [], C_X12_franked.2.1) : Tg)) (sl := [(0, 1), (0, 2)]) (q := 36) (x := 0) (L := enL as 3) (st := []) (h := h) hΦ (fun j C e => match j, e with | 0, e => (by cases e; exact s_X12_laysFewest) | _ + 1, e => (by cases e)) (fun j g e => match j, e with | 0, e => (by cases e; exact gd_in (1) (5)) | 1, e => (by cases e; exact gd_in (1) (600)) | _ + 2, e => (by cases e)) (RS := C_X12_franked.2.2) (Rv := (fun r h' => ∃ q, q ∈ C_X12_franked.2.2 ∧ gR q.1 r ∧ all2 (gC ρ0 τ) q.2 h')) (GR := none) (M := (0, [])) (fun r h' q hq h1 h2 _ => ⟨q, hq, h1, h2⟩) ⟨door ha, trivial, hh⟩ (by decide +kernel)

def P_X12_marks : List Nd := [(1, [], [1, 1]), (0, [1], [2]), (0, [5], [3]), (31, [], [14, 5, 0, 0, 3]), (10, [], [14, 5, 0]), (1, [], [6, 2]), (0, [1], [7]), (0, [6], [8]), (31, [], [14, 10, 1, 0, 3]), (10, [], [14, 10, 0]), (1, [], [11, 1]), (2, [], [12, 0]), (18, [], [13, 10, 11]), (11, [], [16, 14, 4]), (0, [-1], [15]), (24, [], []), (2, [], [17, 0]), (1, [], [18, 1]), (26, [-1, -2, -3, -4, -5, -6, -7, -8, -9, -10, -11, -12, -13, -14, -15, -16, -17, -18, -19, -20, -21, -22, -23, -24, -25, -26, -27, -28, -29], [19, 0, 12, 2, 0, 1, 2]), (10, [], [20, 22, 0]), (0, [-2], [21]), (24, [], []), (0, [0], [23]), (3, [], [41, 3]), (1, [], [25, 3]), (0, [600], [26]), (11, [], [39, 27, 2]), (2, [], [28, 0]), (18, [], [29, 50, 11]), (1, [], [30, 3]), (0, [1], [31]), (6, [], [32, 0]), (20, [], [33, 0]), (1, [], [34, 2]), (11, [], [39, 35, 3]), (1, [], [36, 3]), (0, [1], [37]), (6, [], [38, 0]), (3, [], [41, 3]), (1, [], [40, 3]), (24, [], []), (27, [], [0])]
def C_X12_marks : Con := ([.inr (.inr (some (.inl 0))), .inl (-2147483648, 2147483647), .inl (-2147483648, 2147483647)], hc_34d438202a, [(some (-2147483648, 2147483647), hc_34d438202a)])
def T_X12_marks_42 : Tg × Me := (([some (.inr (.inr (some (.inl 0)))), some (.inl (1, 5)), some (.inl (1, 6)), some (.inl (0, 600))], [], hc_34d438202a), (601, [(-1, 0, 3)]))
set_option maxRecDepth 100000 in
theorem s_X12_marks {l : Launch} : conOk (MetP l 2 yX12_marks cX12_marks 4 (some .int) 0 0) C_X12_marks := by
  intro τ hΦ as h ha hh
  refine m_X12_marks (Jc τ T_X12_marks_42) (by rw [all2_len ha]; exact Nat.le_of_ble_eq_true rfl) ?_ ?_
  · exact run0 (τ := τ) (P := P_X12_marks) (CE := [T_X12_marks_42]) (CS := [C_X12_laysFewest]) (Ms := [MetP l 1 yX12_laysFewest cX12_laysFewest 4 (some .boolean) 0 0]) (GS := [(([topA, .inl (1, 2147483647), .inl (-2147483648, 5)], [], some (0, 1), []), 0, 1, 5), (([topA, .inl (1, 2147483647), .inl (-2147483648, 6)], [], some (0, 1), []), 0, 1, 6)]) (Mg := [MetP l 0 yX12_in cX12_in 3 (some .boolean) 0 0, MetP l 0 yX12_in cX12_in 3 (some .boolean) 0 0]) (T := ((C_X12_marks.1.map some ++ List.replicate (4 - 3) none, [], C_X12_marks.2.1) : Tg)) (sl := [(0, 1), (0, 2)]) (q := 44) (x := 0) (L := enL as 4) (st := []) (h := h) hΦ (fun j C e => match j, e with | 0, e => (by cases e; exact s_X12_laysFewest) | _ + 1, e => (by cases e)) (fun j g e => match j, e with | 0, e => (by cases e; exact gd_in (1) (5)) | 1, e => (by cases e; exact gd_in (1) (6)) | _ + 2, e => (by cases e)) (RS := C_X12_marks.2.2) (Rv := (fun r h' => ∃ q, q ∈ C_X12_marks.2.2 ∧ gR q.1 r ∧ all2 (gC ρ0 τ) q.2 h')) (GR := none) (M := (0, [])) (fun r h' q hq h1 h2 _ => ⟨q, hq, h1, h2⟩) ⟨door ha, trivial, hh⟩ (by decide +kernel)
  · intro μ L st h hJ
    exact runL (τ := τ) (P := P_X12_marks) (CE := [T_X12_marks_42]) (CS := [C_X12_laysFewest]) (Ms := [MetP l 1 yX12_laysFewest cX12_laysFewest 4 (some .boolean) 0 0]) (GS := [(([topA, .inl (1, 2147483647), .inl (-2147483648, 5)], [], some (0, 1), []), 0, 1, 5), (([topA, .inl (1, 2147483647), .inl (-2147483648, 6)], [], some (0, 1), []), 0, 1, 6)]) (Mg := [MetP l 0 yX12_in cX12_in 3 (some .boolean) 0 0, MetP l 0 yX12_in cX12_in 3 (some .boolean) 0 0]) (Q := T_X12_marks_42) (sl := [(0, 1), (0, 2), (0, 3)]) (q := 44) (x := 24) hΦ (fun j C e => match j, e with | 0, e => (by cases e; exact s_X12_laysFewest) | _ + 1, e => (by cases e)) (fun j g e => match j, e with | 0, e => (by cases e; exact gd_in (1) (5)) | 1, e => (by cases e; exact gd_in (1) (6)) | _ + 2, e => (by cases e)) (RS := C_X12_marks.2.2) (Rv := (fun r h' => ∃ q, q ∈ C_X12_marks.2.2 ∧ gR q.1 r ∧ all2 (gC ρ0 τ) q.2 h')) (fun r h' q hq h1 h2 => ⟨q, hq, h1, h2⟩) hJ (by decide +kernel)

def P_X12_meet : List Nd := [(2, [], [1, 0]), (1, [], [2, 1]), (31, [2, -1, 3, 4, 5, 6, -2, -3, -4, -5, -6, -7, -8, -9, 7, 8, 9, 10, 11, 12, 13, -10, -11, -12, -13, 14, -14, -15, -16, -17], [16, 4, 0, 12, 2, 0, 1]), (10, [], [16, 4, 0]), (2, [], [5, 0]), (1, [], [6, 2]), (31, [2, -1, 3, 4, 5, 6, -2, -3, -4, -5, -6, -7, -8, -9, 7, 8, 9, 10, 11, 12, 13, -10, -11, -12, -13, 14, -14, -15, -16, -17], [16, 8, 0, 12, 2, 0, 1]), (10, [], [16, 8, 0]), (1, [], [9, 1]), (1, [], [10, 2]), (11, [], [16, 11, 0]), (1, [], [12, 3]), (0, [1], [13]), (0, [100], [14]), (31, [], [16, 18, 1, 0, 3]), (10, [], [16, 18, 0]), (0, [-1], [17]), (24, [], []), (2, [], [19, 0]), (18, [], [20, 0, 11]), (2, [], [21, 0]), (18, [], [22, 1, 11]), (26, [], [23, 0, 0, 2, 1, 2]), (0, [0], [24]), (3, [], [79, 4]), (2, [], [26, 0]), (18, [], [27, 0, 11]), (0, [8], [28]), (1, [], [29, 1]), (6, [], [30, 0]), (20, [], [31, 0]), (2, [], [32, 0]), (18, [], [33, 0, 11]), (0, [8], [34]), (1, [], [35, 2]), (6, [], [36, 0]), (20, [], [37, 0]), (11, [], [53, 38, 0]), (1, [], [39, 4]), (1, [], [40, 3]), (11, [], [53, 41, 2]), (2, [], [42, 0]), (18, [], [43, 0, 11]), (0, [128], [44]), (20, [], [45, 0]), (0, [9999], [46]), (11, [], [53, 47, 2]), (2, [], [48, 0]), (26, [2, -1, -2, -3, -4, -5, -6, -7, -8, -9, -10, -11, -12, -13, -14, -15, -16, -17], [49, 1, 12, 1, 0, 1, 3, 4, 5, 6, 7, 8, 9, 10, 11, 12, 13, 14]), (1, [], [50, 4]), (0, [1], [51]), (6, [], [52, 0]), (3, [], [79, 4]), (2, [], [54, 0]), (18, [], [55, 0, 11]), (0, [8], [56]), (1, [], [57, 1]), (6, [], [58, 0]), (20, [], [59, 0]), (2, [], [60, 0]), (18, [], [61, 0, 11]), (0, [8], [62]), (1, [], [63, 2]), (6, [], [64, 0]), (20, [], [65, 0]), (11, [], [66, 67, 0]), (0, [1], [68]), (0, [0], [68]), (3, [], [69, 5]), (2, [], [70, 0]), (18, [], [71, 1, 11]), (2, [], [72, 0]), (18, [], [73, 0, 11]), (26, [], [74, 0, 0, 2, 2, 1]), (1, [], [75, 5]), (10, [], [77, 76, 0]), (1, [], [78, 4]), (0, [-2], [78]), (24, [], []), (27, [], [0])]
def C_X12_meet : Con := ([.inr (.inr (some (.inl 0))), .inl (-2147483648, 2147483647), .inl (-2147483648, 2147483647), .inl (-2147483648, 2147483647)], hc_e429e84191, [(some (-2147483648, 2147483647), hc_e429e84191)])
def T_X12_meet_47 : Tg × Me := (([some (.inr (.inr (some (.inl 0)))), some (.inl (0, 7)), some (.inl (0, 7)), some (.inl (1, 100)), some (.inl (0, 100)), none], [], hc_93e39a2243), (101, [(-1, 0, 4)]))
set_option maxRecDepth 100000 in
theorem s_X12_meet {l : Launch} : conOk (MetP l 8 yX12_meet cX12_meet 6 (some .int) 0 0) C_X12_meet := by
  intro τ hΦ as h ha hh
  refine m_X12_meet (Jc τ T_X12_meet_47) (by rw [all2_len ha]; exact Nat.le_of_ble_eq_true rfl) ?_ ?_
  · exact run0 (τ := τ) (P := P_X12_meet) (CE := [T_X12_meet_47]) (CS := [C_X12_copies_d, C_X12_dayGoes_w]) (Ms := [MetP l 0 yX12_copies cX12_copies 3 none 0 0, MetP l 7 yX12_dayGoes cX12_dayGoes 2 none 0 0]) (GS := [(G_X12_isTold, 1, 0, 7), (([topA, .inl (1, 2147483647), .inl (-2147483648, 100)], [], some (0, 1), []), 0, 1, 100)]) (Mg := [MetP l 1 yX12_isTold cX12_isTold 2 (some .boolean) 0 0, MetP l 0 yX12_in cX12_in 3 (some .boolean) 0 0]) (T := ((C_X12_meet.1.map some ++ List.replicate (6 - 4) none, [], C_X12_meet.2.1) : Tg)) (sl := [(0, 1), (0, 2), (0, 3)]) (q := 82) (x := 0) (L := enL as 6) (st := []) (h := h) hΦ (fun j C e => match j, e with | 0, e => (by cases e; exact s_X12_copies_d) | 1, e => (by cases e; exact s_X12_dayGoes_w) | _ + 2, e => (by cases e)) (fun j g e => match j, e with | 0, e => (by cases e; exact gd_X12_isTold) | 1, e => (by cases e; exact gd_in (1) (100)) | _ + 2, e => (by cases e)) (RS := C_X12_meet.2.2) (Rv := (fun r h' => ∃ q, q ∈ C_X12_meet.2.2 ∧ gR q.1 r ∧ all2 (gC ρ0 τ) q.2 h')) (GR := none) (M := (0, [])) (fun r h' q hq h1 h2 _ => ⟨q, hq, h1, h2⟩) ⟨door ha, trivial, hh⟩ (by decide +kernel)
  · intro μ L st h hJ
    exact runL (τ := τ) (P := P_X12_meet) (CE := [T_X12_meet_47]) (CS := [C_X12_copies_d, C_X12_dayGoes_w]) (Ms := [MetP l 0 yX12_copies cX12_copies 3 none 0 0, MetP l 7 yX12_dayGoes cX12_dayGoes 2 none 0 0]) (GS := [(G_X12_isTold, 1, 0, 7), (([topA, .inl (1, 2147483647), .inl (-2147483648, 100)], [], some (0, 1), []), 0, 1, 100)]) (Mg := [MetP l 1 yX12_isTold cX12_isTold 2 (some .boolean) 0 0, MetP l 0 yX12_in cX12_in 3 (some .boolean) 0 0]) (Q := T_X12_meet_47) (sl := [(0, 1), (0, 2), (0, 3), (0, 4)]) (q := 82) (x := 25) hΦ (fun j C e => match j, e with | 0, e => (by cases e; exact s_X12_copies_d) | 1, e => (by cases e; exact s_X12_dayGoes_w) | _ + 2, e => (by cases e)) (fun j g e => match j, e with | 0, e => (by cases e; exact gd_X12_isTold) | 1, e => (by cases e; exact gd_in (1) (100)) | _ + 2, e => (by cases e)) (RS := C_X12_meet.2.2) (Rv := (fun r h' => ∃ q, q ∈ C_X12_meet.2.2 ∧ gR q.1 r ∧ all2 (gC ρ0 τ) q.2 h')) (fun r h' q hq h1 h2 => ⟨q, hq, h1, h2⟩) hJ (by decide +kernel)

def P_X12_tried : List Nd := [(1, [], [1, 1]), (0, [1], [2]), (0, [100], [3]), (31, [], [9, 5, 0, 0, 3]), (10, [], [9, 5, 0]), (2, [], [6, 0]), (1, [], [7, 2]), (31, [2, -1, 3, 4, 5, 6, -2, -3, -4, -5, -6, -7, -8, -9, 7, 8, 9, 10, 11, 12, 13, -10, -11, -12, -13, 14, -14, -15, -16, -17], [9, 11, 1, 12, 2, 0, 1]), (10, [], [9, 11, 0]), (0, [-1], [10]), (24, [], []), (2, [], [12, 0]), (18, [], [13, 0, 11]), (2, [], [14, 0]), (18, [], [15, 1, 11]), (26, [], [16, 0, 0, 2, 1, 2]), (2, [], [17, 0]), (1, [], [18, 1]), (26, [2, -1, -2, -3, -4, -5, -6, -7, -8, -9, -10, -11, -12, -13, -14, -15, -16, -17], [19, 1, 12, 2, 0, 1, 3, 4, 5, 6, 7, 8, 9, 10, 11, 12, 13, 14]), (1, [], [20, 2]), (12, [0], [21, 65]), (2, [], [22, 0]), (18, [], [23, 45, 11]), (3, [], [58, 3]), (2, [], [25, 0]), (18, [], [26, 46, 11]), (3, [], [58, 3]), (2, [], [28, 0]), (26, [2, -1, 3, 4, 5, 6, -2, -3, -4, -5, -6, -7, -8, -9, 7, 8, 9, 10, 11, 12, 13, -10, -11, -12, -13, 14, -14, -15, -16, -17], [29, 2, 12, 1, 0, 1]), (3, [], [58, 3]), (1, [], [31, 2]), (0, [20], [32]), (11, [], [41, 33, 2]), (2, [], [34, 0]), (18, [], [35, 0, 11]), (0, [8], [36]), (1, [], [37, 2]), (6, [], [38, 0]), (0, [10], [39]), (6, [], [40, 1]), (20, [], [57, 0]), (1, [], [42, 2]), (0, [100], [43]), (11, [], [49, 44, 2]), (2, [], [45, 0]), (1, [], [46, 2]), (0, [20], [47]), (6, [], [48, 1]), (26, [2, -1, 3, 4, 5, 6, -2, -3, -4, -5, -6, -7, -8, -9, 7, 8, 9, 10, 11, 12, 13, -10, -11, -12, -13, 14, -14, -15, -16, -17], [57, 3, 12, 2, 0, 1]), (2, [], [50, 0]), (18, [], [51, 0, 11]), (0, [80], [52]), (1, [], [53, 2]), (6, [], [54, 0]), (0, [100], [55]), (6, [], [56, 1]), (20, [], [57, 0]), (3, [], [58, 3]), (2, [], [59, 0]), (18, [], [60, 1, 11]), (2, [], [61, 0]), (18, [], [62, 0, 11]), (26, [], [63, 0, 0, 2, 2, 1]), (1, [], [64, 3]), (24, [], []), (12, [1], [24, 66]), (12, [2], [27, 67]), (13, [], [30])]
def C_X12_tried : Con := ([.inr (.inr (some (.inl 0))), .inl (-2147483648, 2147483647), .inl (-2147483648, 2147483647)], hc_e429e84191, [(some (-2147483648, 2147483647), hc_e429e84191)])
set_option maxRecDepth 100000 in
theorem s_X12_tried {l : Launch} : conOk (MetP l 9 yX12_tried cX12_tried 4 (some .int) 0 0) C_X12_tried := by
  intro τ hΦ as h ha hh
  refine m_X12_tried  (by rw [all2_len ha]; exact Nat.le_of_ble_eq_true rfl) ?_
  · exact run0 (τ := τ) (P := P_X12_tried) (CE := []) (CS := [C_X12_copies_d, C_X12_daysGo_w, C_X12_walledSet_w, C_X12_stampsOn_w]) (Ms := [MetP l 0 yX12_copies cX12_copies 3 none 0 0, MetP l 8 yX12_daysGo cX12_daysGo 3 none 0 0, MetP l 2 yX12_walledSet cX12_walledSet 3 (some .int) 0 0, MetP l 3 yX12_stampsOn cX12_stampsOn 4 (some .int) 0 0]) (GS := [(([topA, .inl (1, 2147483647), .inl (-2147483648, 100)], [], some (0, 1), []), 0, 1, 100), (G_X12_canTry, 1, 0, 147)]) (Mg := [MetP l 0 yX12_in cX12_in 3 (some .boolean) 0 0, MetP l 2 yX12_canTry cX12_canTry 2 (some .boolean) 0 0]) (T := ((C_X12_tried.1.map some ++ List.replicate (4 - 3) none, [], C_X12_tried.2.1) : Tg)) (sl := [(0, 1), (0, 2)]) (q := 70) (x := 0) (L := enL as 4) (st := []) (h := h) hΦ (fun j C e => match j, e with | 0, e => (by cases e; exact s_X12_copies_d) | 1, e => (by cases e; exact s_X12_daysGo_w) | 2, e => (by cases e; exact s_X12_walledSet_w) | 3, e => (by cases e; exact s_X12_stampsOn_w) | _ + 4, e => (by cases e)) (fun j g e => match j, e with | 0, e => (by cases e; exact gd_in (1) (100)) | 1, e => (by cases e; exact gd_X12_canTry) | _ + 2, e => (by cases e)) (RS := C_X12_tried.2.2) (Rv := (fun r h' => ∃ q, q ∈ C_X12_tried.2.2 ∧ gR q.1 r ∧ all2 (gC ρ0 τ) q.2 h')) (GR := none) (M := (0, [])) (fun r h' q hq h1 h2 _ => ⟨q, hq, h1, h2⟩) ⟨door ha, trivial, hh⟩ (by decide +kernel)

