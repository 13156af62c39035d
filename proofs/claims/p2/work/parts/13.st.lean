def P_X10_size : List Nd := [(2, [], [1, 0]), (18, [], [2, 1, 9]), (24, [], [])]
def C_X10_size : Con := ([.inr (.inr (some (.inl 0)))], [.inr (9, [.inr (.inr (some (.inl 1))), .inl (0, 260)]), .inl (0, 260, 0, 255)], some (0, 260), [.inr (9, [.inr (.inr (some (.inl 1))), .inl (0, 260)]), .inl (0, 260, 0, 255)])
set_option maxRecDepth 100000 in
theorem s_X10_size {l : Launch} : conOk (MetP l 0 yX10_size cX10_size 1 (some .int) 0 0) C_X10_size := by
  intro τ as h ha hh
  refine m_X10_size  (by rw [all2_len ha]; exact Nat.le_of_ble_eq_true rfl) ?_
  · exact run0 (τ := τ) (P := P_X10_size) (CE := []) (CS := []) (Ms := []) (T := ((C_X10_size.1.map some ++ List.replicate (1 - 1) none, [], C_X10_size.2.1) : Tg)) (sl := []) (q := 5) (x := 0) (fun j C e => match j, e with | _ + 0, e => (by cases e)) (RS := C_X10_size.2.2) (Rv := (fun r h' => gR C_X10_size.2.2.1 r ∧ all2 (gC ρ0 τ) C_X10_size.2.2.2 h')) (fun r h' h1 h2 => ⟨h1, h2⟩) ⟨door ha, trivial, hh⟩ (by decide +kernel)

def P_X10_takeByte : List Nd := [(2, [], [1, 0]), (18, [], [2, 1, 9]), (2, [], [3, 0]), (18, [], [4, 0, 9]), (22, [], [5]), (11, [], [20, 6, 2]), (2, [], [7, 0]), (18, [], [8, 0, 9]), (2, [], [9, 0]), (18, [], [10, 1, 9]), (1, [], [11, 1]), (0, [255], [12]), (6, [], [13, 3]), (21, [], [14, 0]), (2, [], [15, 0]), (14, [], [16]), (18, [], [17, 1, 9]), (0, [1], [18]), (6, [], [19, 0]), (19, [], [20, 1, 0, 9]), (23, [], [])]
def C_X10_takeByte : Con := ([.inr (.inr (some (.inl 0))), .inl (-2147483648, 2147483647)], [.inr (9, [.inr (.inr (some (.inl 1))), .inl (0, 260)]), .inl (0, 260, 0, 255)], none, [.inr (9, [.inr (.inr (some (.inl 1))), .inl (0, 260)]), .inl (0, 260, 0, 255)])
set_option maxRecDepth 100000 in
theorem s_X10_takeByte {l : Launch} : conOk (MetP l 0 yX10_takeByte cX10_takeByte 2 none 0 0) C_X10_takeByte := by
  intro τ as h ha hh
  refine m_X10_takeByte  (by rw [all2_len ha]; exact Nat.le_of_ble_eq_true rfl) ?_
  · exact run0 (τ := τ) (P := P_X10_takeByte) (CE := []) (CS := []) (Ms := []) (T := ((C_X10_takeByte.1.map some ++ List.replicate (2 - 2) none, [], C_X10_takeByte.2.1) : Tg)) (sl := [(0, 1)]) (q := 23) (x := 0) (fun j C e => match j, e with | _ + 0, e => (by cases e)) (RS := C_X10_takeByte.2.2) (Rv := (fun r h' => gR C_X10_takeByte.2.2.1 r ∧ all2 (gC ρ0 τ) C_X10_takeByte.2.2.2 h')) (fun r h' h1 h2 => ⟨h1, h2⟩) ⟨door ha, trivial, hh⟩ (by decide +kernel)

def P_X10_takeWord : List Nd := [(2, [], [1, 0]), (1, [], [2, 1]), (0, [24], [3]), (6, [], [4, 8]), (26, [], [5, 0, 10, 2, 0, 1]), (2, [], [6, 0]), (1, [], [7, 1]), (0, [16], [8]), (6, [], [9, 8]), (26, [], [10, 0, 10, 2, 0, 1]), (2, [], [11, 0]), (1, [], [12, 1]), (0, [8], [13]), (6, [], [14, 8]), (26, [], [15, 0, 10, 2, 0, 1]), (2, [], [16, 0]), (1, [], [17, 1]), (26, [], [18, 0, 10, 2, 0, 1]), (23, [], [])]
def C_X10_takeWord : Con := ([.inr (.inr (some (.inl 0))), .inl (-2147483648, 2147483647)], [.inr (9, [.inr (.inr (some (.inl 1))), .inl (0, 260)]), .inl (0, 260, 0, 255)], none, [.inr (9, [.inr (.inr (some (.inl 1))), .inl (0, 260)]), .inl (0, 260, 0, 255)])
set_option maxRecDepth 100000 in
theorem s_X10_takeWord {l : Launch} : conOk (MetP l 1 yX10_takeWord cX10_takeWord 2 none 0 0) C_X10_takeWord := by
  intro τ as h ha hh
  refine m_X10_takeWord  (by rw [all2_len ha]; exact Nat.le_of_ble_eq_true rfl) ?_
  · exact run0 (τ := τ) (P := P_X10_takeWord) (CE := []) (CS := [C_X10_takeByte]) (Ms := [MetP l 0 yX10_takeByte cX10_takeByte 2 none 0 0]) (T := ((C_X10_takeWord.1.map some ++ List.replicate (2 - 2) none, [], C_X10_takeWord.2.1) : Tg)) (sl := [(0, 1)]) (q := 21) (x := 0) (fun j C e => match j, e with | 0, e => (by cases e; exact s_X10_takeByte) | _ + 1, e => (by cases e)) (RS := C_X10_takeWord.2.2) (Rv := (fun r h' => gR C_X10_takeWord.2.2.1 r ∧ all2 (gC ρ0 τ) C_X10_takeWord.2.2.2 h')) (fun r h' h1 h2 => ⟨h1, h2⟩) ⟨door ha, trivial, hh⟩ (by decide +kernel)

def P_X10_hasRoom : List Nd := [(2, [], [1, 0]), (18, [], [2, 1, 9]), (1, [], [3, 1]), (6, [], [4, 0]), (2, [], [5, 0]), (18, [], [6, 0, 9]), (22, [], [7]), (11, [], [9, 8, 3]), (0, [1], [10]), (0, [0], [10]), (25, [], [])]
def C_X10_hasRoom : Con := ([.inr (.inr (some (.inl 0))), .inl (-2147483648, 2147483647)], [.inr (9, [.inr (.inr (some (.inl 1))), .inl (0, 260)]), .inl (0, 260, 0, 255)], some (0, 1), [.inr (9, [.inr (.inr (some (.inl 1))), .inl (0, 260)]), .inl (0, 260, 0, 255)])
set_option maxRecDepth 100000 in
theorem s_X10_hasRoom {l : Launch} : conOk (MetP l 0 yX10_hasRoom cX10_hasRoom 2 (some .boolean) 0 0) C_X10_hasRoom := by
  intro τ as h ha hh
  refine m_X10_hasRoom  (by rw [all2_len ha]; exact Nat.le_of_ble_eq_true rfl) ?_
  · exact run0 (τ := τ) (P := P_X10_hasRoom) (CE := []) (CS := []) (Ms := []) (T := ((C_X10_hasRoom.1.map some ++ List.replicate (2 - 2) none, [], C_X10_hasRoom.2.1) : Tg)) (sl := [(0, 1)]) (q := 13) (x := 0) (fun j C e => match j, e with | _ + 0, e => (by cases e)) (RS := C_X10_hasRoom.2.2) (Rv := (fun r h' => gR C_X10_hasRoom.2.2.1 r ∧ all2 (gC ρ0 τ) C_X10_hasRoom.2.2.2 h')) (fun r h' h1 h2 => ⟨h1, h2⟩) ⟨door ha, trivial, hh⟩ (by decide +kernel)

