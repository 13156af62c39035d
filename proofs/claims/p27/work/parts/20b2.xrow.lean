def hc_12b5edb5c6 : List AC := [.inr (11, [.inr (.inr (some (.inl 1))), .inr (.inr (some (.inr 0))), .inr (.inr (some (.inl 2))), .inr (.inr (some (.inr 1))), .inr (.inr (some (.inr 2))), .inr (.inr (some (.inr 3))), .inr (.inr (some (.inr 4))), .inr (.inr (some (.inr 5))), .inl (0, 48), .inr (.inr (some (.inr 6))), .inl (0, 260), .inl (0, 240), .inl (0, 240), .inl (-2147483648, 2147483647), .inl (-2147483648, 2147483647), .inl (-2147483648, 2147483647), .inl (0, 260), .inl (0, 260), .inl (0, 16), .inr (.inr (some (.inr 200))), .inr (.inr (some (.inr 7))), .inr (.inr (some (.inr 8))), .inr (.inr (some (.inr 9))), .inr (.inr (some (.inr 10))), .inr (.inr (some (.inr 11))), .inr (.inr (some (.inr 12))), .inr (.inr (some (.inr 13))), .inr (.inr (some (.inr 14))), .inr (.inr (some (.inr 15))), .inr (.inr (some (.inr 16))), .inr (.inr (some (.inr 17))), .inr (.inr (some (.inr 18))), .inr (.inr (some (.inr 19))), .inr (.inr (some (.inr 20))), .inr (.inr (some (.inr 21))), .inr (.inr (some (.inr 22))), .inr (.inr (some (.inr 23))), .inl (-2147483648, 2147483647), .inl (-2147483648, 2147483647), .inl (-2147483648, 2147483647), .inl (-2147483648, 2147483647), .inl (-2147483648, 2147483647), .inl (-2147483648, 2147483647), .inl (-2147483648, 2147483647), .inl (-2147483648, 2147483647), .inl (-2147483648, 2147483647), .inl (-2147483648, 2147483647), .inr (.inr (some (.inr 24))), .inr (.inr (some (.inr 25))), .inr (.inr (some (.inr 26))), .inr (.inr (some (.inr 27))), .inr (.inr (some (.inr 28))), .inl (1, 1)]), .inl (600, 130, 0, 383), .inl (601, 130, 0, 383)]
/-! ===== rows with exact answers ===== -/
def upL (τ : Nat → List (Option Nat)) (k : Nat) (l : List (Option Nat)) (t : Nat) : List (Option Nat) := match Nat.beq t k with
  | true => l
  | false => τ t
theorem upL_ne {τ : Nat → List (Option Nat)} {k t : Nat} {l : List (Option Nat)} (h : t ≠ k) : upL τ k l t = τ t := by
  unfold upL
  cases e : Nat.beq t k
  · rfl
  · exact absurd (Nat.eq_of_beq_eq_true e) h
theorem upL_at {τ : Nat → List (Option Nat)} {k : Nat} {l : List (Option Nat)} : upL τ k l k = l := by
  unfold upL
  rw [Nat.beq_refl]
theorem ch_ne {t k : Nat} (h : (Nat.ble 100 t && Nat.beq t k) = false) (hk : Nat.ble 100 k = true) : t ≠ k := fun z => by
  subst z
  rw [hk, Nat.beq_refl] at h
  cases h
theorem sq_4 : ∀ n, n ≤ 4 → n * n ≤ 16 := by decide
theorem sq_6 : ∀ n, n ≤ 6 → n * n ≤ 36 := by decide
theorem of_7 {τ : Nat → List (Option Nat)} {n : Nat} {f : Nat → Int32} (b : f 0 = 0) : ∀ i, i < n → (sel 700 i = true → (0 : Int) ≤ (f i).toInt ∧ (f i).toInt ≤ 0) ∧ (700 = 5 → f i = decA (τ (0 : Int).toNat) i) ∧ (Nat.ble 10 700 = true → g3 τ 700 i (f i)) := fun i _ => ⟨fun z => by
  have q : i + 700 = 700 := Nat.eq_of_beq_eq_true z
  rw [show i = 0 by omega, b]
  exact ⟨by decide, by decide⟩, fun z => absurd z (by decide), fun _ => g3_m rfl rfl⟩

def HX_let : List AC := hc_6cffec8429
set_option maxRecDepth 100000 in
theorem x_dayC {l : Launch} : conOkX (MetP l 0 yX4_day cX4_day 1 (some .int) 0 0) [] HX_let HX_let (fun _ => false) (fun _ => True) (fun τ _ y => y = decA (τ 206) 0) := by
  intro τ hΦ hP h hh
  have z := all2_cons hh
  clear hh
  obtain ⟨e0, h, rfl, g0, hh⟩ := z
  rcases e0 with ⟨t0, n0, f0⟩ | ⟨ci, fs⟩
  · exact g0.elim
  obtain ⟨rfl, gf⟩ := g0
  have z := all2_cons gf
  clear gf
  obtain ⟨v0, fs, rfl, q0, gf⟩ := z
  cases (q0 : v0 = .inr (some (.inl 1)))
  have z := all2_cons gf
  clear gf
  obtain ⟨v0, fs, rfl, q0, gf⟩ := z
  cases (q0 : v0 = .inr (some (.inl 2)))
  have z := all2_cons gf
  clear gf
  obtain ⟨v0, fs, rfl, q0, gf⟩ := z
  cases (q0 : v0 = .inr (some (.inl 3)))
  have z := all2_cons gf
  clear gf
  obtain ⟨v0, fs, rfl, q0, gf⟩ := z
  cases (q0 : v0 = .inr (some (.inl 4)))
  have z := all2_cons gf
  clear gf
  obtain ⟨v0, fs, rfl, q0, gf⟩ := z
  obtain ⟨Let_told, rfl, b_Let_told⟩ := q0
  have z := all2_cons gf
  clear gf
  obtain ⟨v0, fs, rfl, q0, gf⟩ := z
  obtain ⟨Let_walled, rfl, b_Let_walled⟩ := q0
  have z := all2_cons gf
  clear gf
  obtain ⟨v0, fs, rfl, q0, gf⟩ := z
  obtain ⟨Let_day, rfl, e_Let_day, b_Let_day⟩ := gT_x (τ := τ) (t := 206) (v := v0) rfl q0
  have z := all2_cons gf
  clear gf
  obtain ⟨v0, fs, rfl, q0, gf⟩ := z
  obtain ⟨Let_drawState, rfl, b_Let_drawState⟩ := q0
  cases fs with
  | cons _ _ => exact gf.elim
  | nil =>
    have z := all2_cons hh
    clear hh
    obtain ⟨e1, h, rfl, g1, hh⟩ := z
    rcases e1 with ⟨t1, n1, Let_place⟩ | ⟨ci, fs⟩
    rotate_left
    · exact g1.elim
    obtain ⟨et, en, b_Let_place⟩ := g1
    cases (et : t1 = 0)
    cases en
    have z := all2_cons hh
    clear hh
    obtain ⟨e1, h, rfl, g1, hh⟩ := z
    rcases e1 with ⟨t1, n1, Let_paste⟩ | ⟨ci, fs⟩
    rotate_left
    · exact g1.elim
    obtain ⟨et, en, b_Let_paste⟩ := g1
    cases (et : t1 = 0)
    cases en
    have z := all2_cons hh
    clear hh
    obtain ⟨e1, h, rfl, g1, hh⟩ := z
    rcases e1 with ⟨t1, n1, Let_letter⟩ | ⟨ci, fs⟩
    rotate_left
    · exact g1.elim
    obtain ⟨et, en, b_Let_letter⟩ := g1
    cases (et : t1 = 0)
    cases en
    have z := all2_cons hh
    clear hh
    obtain ⟨e1, h, rfl, g1, hh⟩ := z
    rcases e1 with ⟨t1, n1, Let_used⟩ | ⟨ci, fs⟩
    rotate_left
    · exact g1.elim
    obtain ⟨et, en, b_Let_used⟩ := g1
    cases (et : t1 = 0)
    cases en
    cases h with
    | cons _ _ => exact hh.elim
    | nil =>
      refine c_X4_day.mono (fun r h' hp => ?_)
      obtain ⟨rfl, rfl⟩ := hp
      exact ⟨τ, _, hΦ, fun _ _ => rfl, rfl, e_Let_day, ⟨⟨rfl, rfl, rfl, rfl, rfl, ⟨_, rfl, b_Let_told⟩, ⟨_, rfl, b_Let_walled⟩, gT_mk rfl e_Let_day b_Let_day, ⟨_, rfl, b_Let_drawState⟩, trivial⟩, ⟨rfl, rfl, b_Let_place⟩, ⟨rfl, rfl, b_Let_paste⟩, ⟨rfl, rfl, b_Let_letter⟩, ⟨rfl, rfl, b_Let_used⟩, trivial⟩⟩

set_option maxRecDepth 100000 in
theorem z_endDay {l : Launch} : conOkZ (MetP l 0 yX4_endDay cX4_endDay 1 none 0 0) [0] [] HX_let HX_let (fun t => Nat.beq t 206) (fun _ => True) (fun τ τ' y => y = none ∧ decA (τ' 206) 0 = f_add (decA (τ 206) 0) 1) := by
  intro τ hΦ hP h hh
  have z := all2_cons hh
  clear hh
  obtain ⟨e0, h, rfl, g0, hh⟩ := z
  rcases e0 with ⟨t0, n0, f0⟩ | ⟨ci, fs⟩
  · exact g0.elim
  obtain ⟨rfl, gf⟩ := g0
  have z := all2_cons gf
  clear gf
  obtain ⟨v0, fs, rfl, q0, gf⟩ := z
  cases (q0 : v0 = .inr (some (.inl 1)))
  have z := all2_cons gf
  clear gf
  obtain ⟨v0, fs, rfl, q0, gf⟩ := z
  cases (q0 : v0 = .inr (some (.inl 2)))
  have z := all2_cons gf
  clear gf
  obtain ⟨v0, fs, rfl, q0, gf⟩ := z
  cases (q0 : v0 = .inr (some (.inl 3)))
  have z := all2_cons gf
  clear gf
  obtain ⟨v0, fs, rfl, q0, gf⟩ := z
  cases (q0 : v0 = .inr (some (.inl 4)))
  have z := all2_cons gf
  clear gf
  obtain ⟨v0, fs, rfl, q0, gf⟩ := z
  obtain ⟨Let_told, rfl, b_Let_told⟩ := q0
  have z := all2_cons gf
  clear gf
  obtain ⟨v0, fs, rfl, q0, gf⟩ := z
  obtain ⟨Let_walled, rfl, b_Let_walled⟩ := q0
  have z := all2_cons gf
  clear gf
  obtain ⟨v0, fs, rfl, q0, gf⟩ := z
  obtain ⟨Let_day, rfl, e_Let_day, b_Let_day⟩ := gT_x (τ := τ) (t := 206) (v := v0) rfl q0
  have z := all2_cons gf
  clear gf
  obtain ⟨v0, fs, rfl, q0, gf⟩ := z
  obtain ⟨Let_drawState, rfl, b_Let_drawState⟩ := q0
  cases fs with
  | cons _ _ => exact gf.elim
  | nil =>
    have z := all2_cons hh
    clear hh
    obtain ⟨e1, h, rfl, g1, hh⟩ := z
    rcases e1 with ⟨t1, n1, Let_place⟩ | ⟨ci, fs⟩
    rotate_left
    · exact g1.elim
    obtain ⟨et, en, b_Let_place⟩ := g1
    cases (et : t1 = 0)
    cases en
    have z := all2_cons hh
    clear hh
    obtain ⟨e1, h, rfl, g1, hh⟩ := z
    rcases e1 with ⟨t1, n1, Let_paste⟩ | ⟨ci, fs⟩
    rotate_left
    · exact g1.elim
    obtain ⟨et, en, b_Let_paste⟩ := g1
    cases (et : t1 = 0)
    cases en
    have z := all2_cons hh
    clear hh
    obtain ⟨e1, h, rfl, g1, hh⟩ := z
    rcases e1 with ⟨t1, n1, Let_letter⟩ | ⟨ci, fs⟩
    rotate_left
    · exact g1.elim
    obtain ⟨et, en, b_Let_letter⟩ := g1
    cases (et : t1 = 0)
    cases en
    have z := all2_cons hh
    clear hh
    obtain ⟨e1, h, rfl, g1, hh⟩ := z
    rcases e1 with ⟨t1, n1, Let_used⟩ | ⟨ci, fs⟩
    rotate_left
    · exact g1.elim
    obtain ⟨et, en, b_Let_used⟩ := g1
    cases (et : t1 = 0)
    cases en
    cases h with
    | cons _ _ => exact hh.elim
    | nil =>
      refine c_X4_endDay.mono (fun r h' hp => ?_)
      obtain ⟨rfl, rfl⟩ := hp
      exact ⟨upL τ 206 [some (natOf (f_add Let_day 1))], none, hΦ, fun t ht => upL_ne (ch_ne ht rfl), rfl, ⟨rfl, (natOf_ok _).trans (by rw [e_Let_day])⟩, ⟨⟨rfl, rfl, rfl, rfl, rfl, ⟨_, rfl, b_Let_told⟩, ⟨_, rfl, b_Let_walled⟩, gT_mk (t := 206) rfl (natOf_ok _).symm ⟨i32lo _, i32hi _⟩, ⟨_, rfl, b_Let_drawState⟩, trivial⟩, ⟨rfl, rfl, b_Let_place⟩, ⟨rfl, rfl, b_Let_paste⟩, ⟨rfl, rfl, b_Let_letter⟩, ⟨rfl, rfl, b_Let_used⟩, trivial⟩⟩

def HX_copyK : List AC := [.inr (4, [.inr (.inr (some (.inl 1))), .inr (.inr (some (.inl 2))), .inr (.inr (some (.inl 3))), .inr (.inr (some (.inl 4))), .inl (-2147483648, 2147483647), .inl (-2147483648, 2147483647), .inr (.inr (some (.inr 207))), .inl (-2147483648, 2147483647)]), .inl (0, 8, -2147483648, 2147483647), .inl (0, 8, -2147483648, 2147483647), .inl (0, 48, -2147483648, 2147483647), .inl (0, 48, -2147483648, 2147483647), .inr (4, [.inr (.inr (some (.inl 6))), .inr (.inr (some (.inl 7))), .inr (.inr (some (.inl 8))), .inr (.inr (some (.inl 9))), .inl (-2147483648, 2147483647), .inl (-2147483648, 2147483647), .inr (.inr (some (.inr 206))), .inl (-2147483648, 2147483647)]), .inl (0, 8, -2147483648, 2147483647), .inl (0, 8, -2147483648, 2147483647), .inl (0, 48, -2147483648, 2147483647), .inl (0, 48, -2147483648, 2147483647)]
set_option maxRecDepth 100000 in
theorem z_copyK {l : Launch} : conOkZ (MetP l 1 yX4_copyFrom cX4_copyFrom 2 none 0 0) [0, 5] [] HX_copyK HX_copyK (fun t => Nat.beq t 207) (fun _ => True) (fun τ τ' y => y = none ∧ decA (τ' 207) 0 = decA (τ 206) 0) := by
  intro τ hΦ hP h hh
  have z := all2_cons hh
  clear hh
  obtain ⟨e0, h, rfl, g0, hh⟩ := z
  rcases e0 with ⟨t0, n0, f0⟩ | ⟨ci, fs⟩
  · exact g0.elim
  obtain ⟨rfl, gf⟩ := g0
  have z := all2_cons gf
  clear gf
  obtain ⟨v0, fs, rfl, q0, gf⟩ := z
  cases (q0 : v0 = .inr (some (.inl 1)))
  have z := all2_cons gf
  clear gf
  obtain ⟨v0, fs, rfl, q0, gf⟩ := z
  cases (q0 : v0 = .inr (some (.inl 2)))
  have z := all2_cons gf
  clear gf
  obtain ⟨v0, fs, rfl, q0, gf⟩ := z
  cases (q0 : v0 = .inr (some (.inl 3)))
  have z := all2_cons gf
  clear gf
  obtain ⟨v0, fs, rfl, q0, gf⟩ := z
  cases (q0 : v0 = .inr (some (.inl 4)))
  have z := all2_cons gf
  clear gf
  obtain ⟨v0, fs, rfl, q0, gf⟩ := z
  obtain ⟨Let_told, rfl, b_Let_told⟩ := q0
  have z := all2_cons gf
  clear gf
  obtain ⟨v0, fs, rfl, q0, gf⟩ := z
  obtain ⟨Let_walled, rfl, b_Let_walled⟩ := q0
  have z := all2_cons gf
  clear gf
  obtain ⟨v0, fs, rfl, q0, gf⟩ := z
  obtain ⟨Let_day, rfl, e_Let_day, b_Let_day⟩ := gT_x (τ := τ) (t := 207) (v := v0) rfl q0
  have z := all2_cons gf
  clear gf
  obtain ⟨v0, fs, rfl, q0, gf⟩ := z
  obtain ⟨Let_drawState, rfl, b_Let_drawState⟩ := q0
  cases fs with
  | cons _ _ => exact gf.elim
  | nil =>
    have z := all2_cons hh
    clear hh
    obtain ⟨e1, h, rfl, g1, hh⟩ := z
    rcases e1 with ⟨t1, n1, Let_place⟩ | ⟨ci, fs⟩
    rotate_left
    · exact g1.elim
    obtain ⟨et, en, b_Let_place⟩ := g1
    cases (et : t1 = 0)
    cases en
    have z := all2_cons hh
    clear hh
    obtain ⟨e1, h, rfl, g1, hh⟩ := z
    rcases e1 with ⟨t1, n1, Let_paste⟩ | ⟨ci, fs⟩
    rotate_left
    · exact g1.elim
    obtain ⟨et, en, b_Let_paste⟩ := g1
    cases (et : t1 = 0)
    cases en
    have z := all2_cons hh
    clear hh
    obtain ⟨e1, h, rfl, g1, hh⟩ := z
    rcases e1 with ⟨t1, n1, Let_letter⟩ | ⟨ci, fs⟩
    rotate_left
    · exact g1.elim
    obtain ⟨et, en, b_Let_letter⟩ := g1
    cases (et : t1 = 0)
    cases en
    have z := all2_cons hh
    clear hh
    obtain ⟨e1, h, rfl, g1, hh⟩ := z
    rcases e1 with ⟨t1, n1, Let_used⟩ | ⟨ci, fs⟩
    rotate_left
    · exact g1.elim
    obtain ⟨et, en, b_Let_used⟩ := g1
    cases (et : t1 = 0)
    cases en
    have z := all2_cons hh
    clear hh
    obtain ⟨e0, h, rfl, g0, hh⟩ := z
    rcases e0 with ⟨t0, n0, f0⟩ | ⟨ci, fs⟩
    · exact g0.elim
    obtain ⟨rfl, gf⟩ := g0
    have z := all2_cons gf
    clear gf
    obtain ⟨v0, fs, rfl, q0, gf⟩ := z
    cases (q0 : v0 = .inr (some (.inl 6)))
    have z := all2_cons gf
    clear gf
    obtain ⟨v0, fs, rfl, q0, gf⟩ := z
    cases (q0 : v0 = .inr (some (.inl 7)))
    have z := all2_cons gf
    clear gf
    obtain ⟨v0, fs, rfl, q0, gf⟩ := z
    cases (q0 : v0 = .inr (some (.inl 8)))
    have z := all2_cons gf
    clear gf
    obtain ⟨v0, fs, rfl, q0, gf⟩ := z
    cases (q0 : v0 = .inr (some (.inl 9)))
    have z := all2_cons gf
    clear gf
    obtain ⟨v0, fs, rfl, q0, gf⟩ := z
    obtain ⟨Oth_told, rfl, b_Oth_told⟩ := q0
    have z := all2_cons gf
    clear gf
    obtain ⟨v0, fs, rfl, q0, gf⟩ := z
    obtain ⟨Oth_walled, rfl, b_Oth_walled⟩ := q0
    have z := all2_cons gf
    clear gf
    obtain ⟨v0, fs, rfl, q0, gf⟩ := z
    obtain ⟨Oth_day, rfl, e_Oth_day, b_Oth_day⟩ := gT_x (τ := τ) (t := 206) (v := v0) rfl q0
    have z := all2_cons gf
    clear gf
    obtain ⟨v0, fs, rfl, q0, gf⟩ := z
    obtain ⟨Oth_drawState, rfl, b_Oth_drawState⟩ := q0
    cases fs with
    | cons _ _ => exact gf.elim
    | nil =>
      have z := all2_cons hh
      clear hh
      obtain ⟨e1, h, rfl, g1, hh⟩ := z
      rcases e1 with ⟨t1, n1, Oth_place⟩ | ⟨ci, fs⟩
      rotate_left
      · exact g1.elim
      obtain ⟨et, en, b_Oth_place⟩ := g1
      cases (et : t1 = 0)
      cases en
      have z := all2_cons hh
      clear hh
      obtain ⟨e1, h, rfl, g1, hh⟩ := z
      rcases e1 with ⟨t1, n1, Oth_paste⟩ | ⟨ci, fs⟩
      rotate_left
      · exact g1.elim
      obtain ⟨et, en, b_Oth_paste⟩ := g1
      cases (et : t1 = 0)
      cases en
      have z := all2_cons hh
      clear hh
      obtain ⟨e1, h, rfl, g1, hh⟩ := z
      rcases e1 with ⟨t1, n1, Oth_letter⟩ | ⟨ci, fs⟩
      rotate_left
      · exact g1.elim
      obtain ⟨et, en, b_Oth_letter⟩ := g1
      cases (et : t1 = 0)
      cases en
      have z := all2_cons hh
      clear hh
      obtain ⟨e1, h, rfl, g1, hh⟩ := z
      rcases e1 with ⟨t1, n1, Oth_used⟩ | ⟨ci, fs⟩
      rotate_left
      · exact g1.elim
      obtain ⟨et, en, b_Oth_used⟩ := g1
      cases (et : t1 = 0)
      cases en
      cases h with
      | cons _ _ => exact hh.elim
      | nil =>
        refine c_X4_copyFrom.mono (fun r h' hp => ?_)
        obtain ⟨rfl, rfl⟩ := hp
        exact ⟨upL τ 207 [some (natOf Oth_day)], none, hΦ, fun t ht => upL_ne (ch_ne ht rfl), rfl, ⟨rfl, (natOf_ok _).trans e_Oth_day⟩, ⟨⟨rfl, rfl, rfl, rfl, rfl, topA_ok _, topA_ok _, gT_mk (t := 207) rfl (natOf_ok _).symm ⟨i32lo _, i32hi _⟩, topA_ok _, trivial⟩, ⟨rfl, rfl, of_rg rg_top⟩, ⟨rfl, rfl, of_rg rg_top⟩, ⟨rfl, rfl, of_rg rg_top⟩, ⟨rfl, rfl, of_rg rg_top⟩, ⟨rfl, rfl, rfl, rfl, rfl, ⟨_, rfl, b_Oth_told⟩, ⟨_, rfl, b_Oth_walled⟩, gT_mk rfl e_Oth_day b_Oth_day, ⟨_, rfl, b_Oth_drawState⟩, trivial⟩, ⟨rfl, rfl, b_Oth_place⟩, ⟨rfl, rfl, b_Oth_paste⟩, ⟨rfl, rfl, b_Oth_letter⟩, ⟨rfl, rfl, b_Oth_used⟩, trivial⟩⟩

def HX_copyU : List AC := [.inr (4, [.inr (.inr (some (.inl 1))), .inr (.inr (some (.inl 2))), .inr (.inr (some (.inl 3))), .inr (.inr (some (.inl 4))), .inl (-2147483648, 2147483647), .inl (-2147483648, 2147483647), .inr (.inr (some (.inr 206))), .inl (-2147483648, 2147483647)]), .inl (0, 8, -2147483648, 2147483647), .inl (0, 8, -2147483648, 2147483647), .inl (0, 48, -2147483648, 2147483647), .inl (0, 48, -2147483648, 2147483647), .inr (4, [.inr (.inr (some (.inl 6))), .inr (.inr (some (.inl 7))), .inr (.inr (some (.inl 8))), .inr (.inr (some (.inl 9))), .inl (-2147483648, 2147483647), .inl (-2147483648, 2147483647), .inr (.inr (some (.inr 207))), .inl (-2147483648, 2147483647)]), .inl (0, 8, -2147483648, 2147483647), .inl (0, 8, -2147483648, 2147483647), .inl (0, 48, -2147483648, 2147483647), .inl (0, 48, -2147483648, 2147483647)]
set_option maxRecDepth 100000 in
theorem z_copyU {l : Launch} : conOkZ (MetP l 1 yX4_copyFrom cX4_copyFrom 2 none 0 0) [0, 5] [] HX_copyU HX_copyU (fun t => Nat.beq t 206) (fun _ => True) (fun τ τ' y => y = none ∧ decA (τ' 206) 0 = decA (τ 207) 0) := by
  intro τ hΦ hP h hh
  have z := all2_cons hh
  clear hh
  obtain ⟨e0, h, rfl, g0, hh⟩ := z
  rcases e0 with ⟨t0, n0, f0⟩ | ⟨ci, fs⟩
  · exact g0.elim
  obtain ⟨rfl, gf⟩ := g0
  have z := all2_cons gf
  clear gf
  obtain ⟨v0, fs, rfl, q0, gf⟩ := z
  cases (q0 : v0 = .inr (some (.inl 1)))
  have z := all2_cons gf
  clear gf
  obtain ⟨v0, fs, rfl, q0, gf⟩ := z
  cases (q0 : v0 = .inr (some (.inl 2)))
  have z := all2_cons gf
  clear gf
  obtain ⟨v0, fs, rfl, q0, gf⟩ := z
  cases (q0 : v0 = .inr (some (.inl 3)))
  have z := all2_cons gf
  clear gf
  obtain ⟨v0, fs, rfl, q0, gf⟩ := z
  cases (q0 : v0 = .inr (some (.inl 4)))
  have z := all2_cons gf
  clear gf
  obtain ⟨v0, fs, rfl, q0, gf⟩ := z
  obtain ⟨Let_told, rfl, b_Let_told⟩ := q0
  have z := all2_cons gf
  clear gf
  obtain ⟨v0, fs, rfl, q0, gf⟩ := z
  obtain ⟨Let_walled, rfl, b_Let_walled⟩ := q0
  have z := all2_cons gf
  clear gf
  obtain ⟨v0, fs, rfl, q0, gf⟩ := z
  obtain ⟨Let_day, rfl, e_Let_day, b_Let_day⟩ := gT_x (τ := τ) (t := 206) (v := v0) rfl q0
  have z := all2_cons gf
  clear gf
  obtain ⟨v0, fs, rfl, q0, gf⟩ := z
  obtain ⟨Let_drawState, rfl, b_Let_drawState⟩ := q0
  cases fs with
  | cons _ _ => exact gf.elim
  | nil =>
    have z := all2_cons hh
    clear hh
    obtain ⟨e1, h, rfl, g1, hh⟩ := z
    rcases e1 with ⟨t1, n1, Let_place⟩ | ⟨ci, fs⟩
    rotate_left
    · exact g1.elim
    obtain ⟨et, en, b_Let_place⟩ := g1
    cases (et : t1 = 0)
    cases en
    have z := all2_cons hh
    clear hh
    obtain ⟨e1, h, rfl, g1, hh⟩ := z
    rcases e1 with ⟨t1, n1, Let_paste⟩ | ⟨ci, fs⟩
    rotate_left
    · exact g1.elim
    obtain ⟨et, en, b_Let_paste⟩ := g1
    cases (et : t1 = 0)
    cases en
    have z := all2_cons hh
    clear hh
    obtain ⟨e1, h, rfl, g1, hh⟩ := z
    rcases e1 with ⟨t1, n1, Let_letter⟩ | ⟨ci, fs⟩
    rotate_left
    · exact g1.elim
    obtain ⟨et, en, b_Let_letter⟩ := g1
    cases (et : t1 = 0)
    cases en
    have z := all2_cons hh
    clear hh
    obtain ⟨e1, h, rfl, g1, hh⟩ := z
    rcases e1 with ⟨t1, n1, Let_used⟩ | ⟨ci, fs⟩
    rotate_left
    · exact g1.elim
    obtain ⟨et, en, b_Let_used⟩ := g1
    cases (et : t1 = 0)
    cases en
    have z := all2_cons hh
    clear hh
    obtain ⟨e0, h, rfl, g0, hh⟩ := z
    rcases e0 with ⟨t0, n0, f0⟩ | ⟨ci, fs⟩
    · exact g0.elim
    obtain ⟨rfl, gf⟩ := g0
    have z := all2_cons gf
    clear gf
    obtain ⟨v0, fs, rfl, q0, gf⟩ := z
    cases (q0 : v0 = .inr (some (.inl 6)))
    have z := all2_cons gf
    clear gf
    obtain ⟨v0, fs, rfl, q0, gf⟩ := z
    cases (q0 : v0 = .inr (some (.inl 7)))
    have z := all2_cons gf
    clear gf
    obtain ⟨v0, fs, rfl, q0, gf⟩ := z
    cases (q0 : v0 = .inr (some (.inl 8)))
    have z := all2_cons gf
    clear gf
    obtain ⟨v0, fs, rfl, q0, gf⟩ := z
    cases (q0 : v0 = .inr (some (.inl 9)))
    have z := all2_cons gf
    clear gf
    obtain ⟨v0, fs, rfl, q0, gf⟩ := z
    obtain ⟨Oth_told, rfl, b_Oth_told⟩ := q0
    have z := all2_cons gf
    clear gf
    obtain ⟨v0, fs, rfl, q0, gf⟩ := z
    obtain ⟨Oth_walled, rfl, b_Oth_walled⟩ := q0
    have z := all2_cons gf
    clear gf
    obtain ⟨v0, fs, rfl, q0, gf⟩ := z
    obtain ⟨Oth_day, rfl, e_Oth_day, b_Oth_day⟩ := gT_x (τ := τ) (t := 207) (v := v0) rfl q0
    have z := all2_cons gf
    clear gf
    obtain ⟨v0, fs, rfl, q0, gf⟩ := z
    obtain ⟨Oth_drawState, rfl, b_Oth_drawState⟩ := q0
    cases fs with
    | cons _ _ => exact gf.elim
    | nil =>
      have z := all2_cons hh
      clear hh
      obtain ⟨e1, h, rfl, g1, hh⟩ := z
      rcases e1 with ⟨t1, n1, Oth_place⟩ | ⟨ci, fs⟩
      rotate_left
      · exact g1.elim
      obtain ⟨et, en, b_Oth_place⟩ := g1
      cases (et : t1 = 0)
      cases en
      have z := all2_cons hh
      clear hh
      obtain ⟨e1, h, rfl, g1, hh⟩ := z
      rcases e1 with ⟨t1, n1, Oth_paste⟩ | ⟨ci, fs⟩
      rotate_left
      · exact g1.elim
      obtain ⟨et, en, b_Oth_paste⟩ := g1
      cases (et : t1 = 0)
      cases en
      have z := all2_cons hh
      clear hh
      obtain ⟨e1, h, rfl, g1, hh⟩ := z
      rcases e1 with ⟨t1, n1, Oth_letter⟩ | ⟨ci, fs⟩
      rotate_left
      · exact g1.elim
      obtain ⟨et, en, b_Oth_letter⟩ := g1
      cases (et : t1 = 0)
      cases en
      have z := all2_cons hh
      clear hh
      obtain ⟨e1, h, rfl, g1, hh⟩ := z
      rcases e1 with ⟨t1, n1, Oth_used⟩ | ⟨ci, fs⟩
      rotate_left
      · exact g1.elim
      obtain ⟨et, en, b_Oth_used⟩ := g1
      cases (et : t1 = 0)
      cases en
      cases h with
      | cons _ _ => exact hh.elim
      | nil =>
        refine c_X4_copyFrom.mono (fun r h' hp => ?_)
        obtain ⟨rfl, rfl⟩ := hp
        exact ⟨upL τ 206 [some (natOf Oth_day)], none, hΦ, fun t ht => upL_ne (ch_ne ht rfl), rfl, ⟨rfl, (natOf_ok _).trans e_Oth_day⟩, ⟨⟨rfl, rfl, rfl, rfl, rfl, topA_ok _, topA_ok _, gT_mk (t := 206) rfl (natOf_ok _).symm ⟨i32lo _, i32hi _⟩, topA_ok _, trivial⟩, ⟨rfl, rfl, of_rg rg_top⟩, ⟨rfl, rfl, of_rg rg_top⟩, ⟨rfl, rfl, of_rg rg_top⟩, ⟨rfl, rfl, of_rg rg_top⟩, ⟨rfl, rfl, rfl, rfl, rfl, ⟨_, rfl, b_Oth_told⟩, ⟨_, rfl, b_Oth_walled⟩, gT_mk rfl e_Oth_day b_Oth_day, ⟨_, rfl, b_Oth_drawState⟩, trivial⟩, ⟨rfl, rfl, b_Oth_place⟩, ⟨rfl, rfl, b_Oth_paste⟩, ⟨rfl, rfl, b_Oth_letter⟩, ⟨rfl, rfl, b_Oth_used⟩, trivial⟩⟩

def HD_pass : List AC := hc_2942bf5f27
theorem dst1 {τ : Nat → List (Option Nat)} {a : AV} {st : List PV} (h : all2 (gV ρ0 τ) [a] st) : ∃ v, st = [v] ∧ gV ρ0 τ a v := by
  obtain ⟨v, st', rfl, hv, h1⟩ := all2_cons h
  cases st' with
  | nil => exact ⟨v, rfl, hv⟩
  | cons _ _ => exact h1.elim
theorem dst2 {τ : Nat → List (Option Nat)} {a b : AV} {st : List PV} (h : all2 (gV ρ0 τ) [a, b] st) : ∃ v w, st = [v, w] ∧ gV ρ0 τ a v ∧ gV ρ0 τ b w := by
  obtain ⟨v, st', rfl, hv, h1⟩ := all2_cons h
  obtain ⟨w, st'', rfl, hw, h2⟩ := all2_cons h1
  cases st'' with
  | nil => exact ⟨v, w, rfl, hv, hw⟩
  | cons _ _ => exact h2.elim
set_option maxRecDepth 100000 in
theorem z_passDays {l : Launch} {n : Nat} (hn : n ≤ 100) : conOkZ (MetP l 6 yX0_passDays cX0_passDays 7 (some .int) 0 0) [0, 9, 16] [nI n] HD_pass HD_pass (fun t => Nat.beq t 206) (fun _ => True) (fun τ τ' y => (∃ v, y = some v) ∧ decA (τ' 206) 0 = dyF (decA (τ 206) 0) n) := by
  intro τ hΦ hP h hh
  refine m_X0_passDays (fun μ L st h => ∃ (i : Nat) (s : Int32) (z : Option PV) (τ2 : Nat → List (Option Nat)), μ = 20 * (n - i) + 15 ∧ i ≤ n ∧ Φ τ2 ∧ (∀ t, (Nat.ble 100 t && Nat.beq t 206) = false → τ2 t = τ t) ∧ decA (τ2 206) 0 = dyF (decA (τ 206) 0) i ∧ all2 (gC ρ0 τ2) HD_pass h ∧ L = [some (rfC 0), some (rfC 9), some (rfC 16), some (.inl (nI n)), some (.inl s), some (.inl (nI i)), z] ∧ st = []) (fun μ L st h => ∃ (i t : Nat) (s : Int32) (τ2 : Nat → List (Option Nat)), μ = 20 * (n - i) + (8 - t) ∧ i < n ∧ t ≤ 8 ∧ Φ τ2 ∧ (∀ t, (Nat.ble 100 t && Nat.beq t 206) = false → τ2 t = τ t) ∧ decA (τ2 206) 0 = dyF (decA (τ 206) 0) i ∧ dyF (decA (τ 206) 0) i < 9999 ∧ all2 (gC ρ0 τ2) HD_pass h ∧ L = [some (rfC 0), some (rfC 9), some (rfC 16), some (.inl (nI n)), some (.inl s), some (.inl (nI i)), some (.inl (nI t))] ∧ st = []) (Nat.le_of_ble_eq_true rfl) ?_ ?_ ?_
  · skip
    have z := all2_cons hh
    obtain ⟨e0, h, rfl, g0, hh1⟩ := z
    rcases e0 with ⟨t0, n0, f0⟩ | ⟨ci, fs⟩
    · exact g0.elim
    obtain ⟨rfl, gf⟩ := g0
    have z := all2_cons gf
    clear gf
    obtain ⟨v0, fs, rfl, q0, gf⟩ := z
    cases (q0 : v0 = .inr (some (.inl 3)))
    have z := all2_cons gf
    clear gf
    obtain ⟨v0, fs, rfl, q0, gf⟩ := z
    cases (q0 : v0 = .inr (some (.inl 1)))
    have z := all2_cons gf
    clear gf
    obtain ⟨v0, fs, rfl, q0, gf⟩ := z
    cases (q0 : v0 = .inr (some (.inl 2)))
    have z := all2_cons gf
    clear gf
    obtain ⟨v0, fs, rfl, q0, gf⟩ := z
    obtain ⟨Clk_acrossSum, rfl, b_Clk_acrossSum⟩ := q0
    have z := all2_cons gf
    clear gf
    obtain ⟨v0, fs, rfl, q0, gf⟩ := z
    obtain ⟨Clk_alongSum, rfl, b_Clk_alongSum⟩ := q0
    have z := all2_cons gf
    clear gf
    obtain ⟨v0, fs, rfl, q0, gf⟩ := z
    obtain ⟨Clk_fallen, rfl, b_Clk_fallen⟩ := q0
    cases fs with
    | cons _ _ => exact gf.elim
    | nil =>
      exact ⟨_, 0, 0, none, τ, rfl, by omega, hΦ, fun _ _ => rfl, rfl, ⟨⟨rfl, rfl, rfl, rfl, ⟨_, rfl, b_Clk_acrossSum⟩, ⟨_, rfl, b_Clk_alongSum⟩, topA_ok _, trivial⟩, hh1⟩, rfl, rfl⟩
  · rintro μ L st h ⟨i, s, z, τ2, hμ, h1, p1, p2, p3, hh2, rfl, rfl⟩
    refine And.intro (fun q1 => ?_) (fun q1 => ?_)
    · have q1 := (nI_leI (by omega) (by omega)).mp q1
      obtain rfl : i = n := by omega
      exact ⟨τ2, some s, p1, p2, rfl, ⟨⟨s, rfl⟩, p3⟩, hh2⟩
    · have q1 : i < n := Nat.lt_of_not_le fun z => q1 ((nI_leI (by omega) (by omega)).mpr z)
      refine callX (τ := τ2) (xs := []) (rest := []) (a := 16) (ci := 4) (tm := []) (H := HD_pass) (H2 := HD_pass) p1 trivial x_dayC hh2 (fun K h => h) rfl rfl rfl (by decide +kernel) (by decide +kernel) (by decide +kernel) (by decide +kernel) (fun τ3 p4 p5 y h3 qv q4 => ?_)
      have e_ : τ3 = τ2 := funext fun t => p5 t (Bool.and_false _)
      rw [e_] at q4
      have qv : y = decA (τ2 206) 0 := qv
      rw [p3] at qv
      subst qv
      refine And.intro (fun (w : (9999 : Int32) ≤ dyF (decA (τ 206) 0) i) => ?_) (fun (w : ¬ (9999 : Int32) ≤ dyF (decA (τ 206) 0) i) => ?_)
      · have e : dyF (decA (τ 206) 0) n = dyF (decA (τ 206) 0) i := by
          rw [show n = i + (n - i) by omega]
          exact dyF_s (nl_n w) _
        exact ⟨τ2, some s, p1, p2, rfl, ⟨⟨s, rfl⟩, p3.trans e.symm⟩, q4⟩
      · exact ⟨20 * (n - i) + (8 - 0), by omega, i, 0, s, τ2, rfl, q1, by omega, p1, p2, p3, lt_n w, q4, rfl, rfl⟩
  · rintro μ L st h ⟨i, t, s, τ2, hμ, h0, h1, p1, p2, p3, p6, hh2, rfl, rfl⟩
    refine And.intro (fun q1 => ?_) (fun q1 => ?_)
    · refine callZ (τ := τ2) (as := []) (xs := []) (rest := []) (a := 16) (ci := 4) (tm := []) (H := HD_pass) (H2 := HD_pass) p1 trivial z_endDay hh2 (fun K h => h) rfl rfl rfl (by decide +kernel) (by decide +kernel) (by decide +kernel) (by decide +kernel) (fun τ3 p4 p5 y h3 qv q4 => ?_)
      obtain ⟨rfl, qv⟩ := qv
      have qv : decA (τ3 206) 0 = f_add (decA (τ2 206) 0) 1 := qv
      rw [p3] at qv
      have e : dyF (decA (τ 206) 0) (i + 1) = f_add (dyF (decA (τ 206) 0) i) 1 := if_pos p6
      exact ⟨20 * (n - (i + 1)) + 15, by omega, i + 1, s, _, τ3, rfl, by omega, p4, fun t ht => (p5 t ht).trans (p2 t ht), qv.trans e.symm, q4, by rw [← nI_1 i] <;> rfl, rfl⟩
    · have q1 : t < 8 := Nat.lt_of_not_le fun z => q1 ((nI_leI (a := 8) (by omega) (by omega)).mpr z)
      refine callT (τ := τ2) (tm := []) (A := [topA, .inr (.inr (some (.inl 16)))]) (H := HD_pass) (Ts := [([topA], HD_pass)]) p1 s_X4_isTold_d ⟨topA_ok _, rfl, trivial⟩ hh2 (by decide +kernel) (fun T hT st h3 q2 q3 => ?_)
      cases List.mem_singleton.mp hT
      obtain ⟨v, rfl, hv⟩ := dst1 q2
      obtain ⟨v, rfl, _⟩ := hv
      refine And.intro (fun _ => ?_) (fun _ => ?_)
      · exact ⟨20 * (n - i) + (8 - (t + 1)), by omega, i, t + 1, s, τ2, rfl, h0, by omega, p1, p2, p3, p6, q3, by rw [← nI_1 t] <;> rfl, rfl⟩
      · refine callT (τ := τ2) (tm := []) (A := [topA, .inr (.inr (some (.inl 16))), .inr (.inr (some (.inl 9))), .inr (.inr (some (.inl 0))), topA]) (H := HD_pass) (Ts := [([topA, topA], HD_pass)]) p1 s_X0_passLetter_d ⟨topA_ok _, rfl, rfl, rfl, topA_ok _, trivial⟩ q3 (by decide +kernel) (fun T hT st h4 q5 q6 => ?_)
        cases List.mem_singleton.mp hT
        obtain ⟨v, w, rfl, hv, hw⟩ := dst2 q5
        obtain ⟨v, rfl, _⟩ := hv
        obtain ⟨w, rfl, _⟩ := hw
        exact ⟨20 * (n - i) + (8 - (t + 1)), by omega, i, t + 1, _, τ2, rfl, h0, by omega, p1, p2, p3, p6, q6, by rw [← nI_1 t] <;> rfl, rfl⟩

def HX_daysC : List AC := [.inr (10, [.inr (.inr (some (.inr 0))), .inr (.inr (some (.inl 4))), .inr (.inr (some (.inl 17))), .inr (.inr (some (.inr 1))), .inr (.inr (some (.inr 2))), .inr (.inr (some (.inl 1))), .inr (.inr (some (.inr 3))), .inr (.inr (some (.inr 4))), .inr (.inr (some (.inr 5))), .inr (.inr (some (.inr 6))), .inr (.inr (some (.inr 7))), .inr (.inr (some (.inr 8))), .inr (.inr (some (.inl 10))), .inr (.inr (some (.inr 9))), .inr (.inr (some (.inr 201)))]), .inr (0, [.inr (.inr (some (.inl 4))), .inr (.inr (some (.inl 2))), .inr (.inr (some (.inl 3))), .inl (-2147483648, 2147483647), .inl (-2147483648, 2147483647), .inl (-2147483648, 2147483647)]), .inl (0, 9, -2147483648, 2147483647), .inl (0, 48, -2147483648, 2147483647), .inr (6, [.inr (.inr (some (.inl 5))), .inr (.inr (some (.inl 6))), .inr (.inr (some (.inl 7))), .inr (.inr (some (.inl 8))), .inr (.inr (some (.inl 9))), .inl (-2147483648, 2147483647), .inl (-2147483648, 2147483647), .inl (0, 48)]), .inl (0, 8, -2147483648, 2147483647), .inl (0, 8, -2147483648, 2147483647), .inl (2, 384, 0, 1), .inl (0, 48, -2147483648, 2147483647), .inl (0, 48, -2147483648, 2147483647), .inr (2, [.inr (.inr (some (.inl 11))), .inr (.inr (some (.inl 12))), .inr (.inr (some (.inl 13))), .inr (.inr (some (.inl 14))), .inr (.inr (some (.inl 15))), .inr (.inr (some (.inl 16))), .inl (0, 16), .inl (0, 280), .inl (0, 24), .inl (0, 1)]), .inl (0, 16, -2147483648, 2147483647), .inl (0, 16, -2147483648, 2147483647), .inl (0, 16, -2147483648, 2147483647), .inl (0, 280, -2147483648, 2147483647), .inl (0, 280, -2147483648, 2147483647), .inl (0, 24, -2147483648, 2147483647), .inr (4, [.inr (.inr (some (.inl 18))), .inr (.inr (some (.inl 19))), .inr (.inr (some (.inl 20))), .inr (.inr (some (.inl 21))), .inl (-2147483648, 2147483647), .inl (-2147483648, 2147483647), .inr (.inr (some (.inr 206))), .inl (-2147483648, 2147483647)]), .inl (0, 8, -2147483648, 2147483647), .inl (0, 8, -2147483648, 2147483647), .inl (0, 48, -2147483648, 2147483647), .inl (0, 48, -2147483648, 2147483647)]
set_option maxRecDepth 100000 in
theorem x_daysC {l : Launch} {n : Nat} (h1 : 1 ≤ n ∧ n ≤ 100) : conOkX (MetP l 7 yX11_days cX11_days 2 (some .int) 0 0) [nI n] HX_daysC HX_daysC (fun t => Nat.beq t 206) (fun _ => True) (fun τ τ' _ => decA (τ' 206) 0 = dyF (decA (τ 206) 0) n) := by
  intro τ hΦ hP h hh
  have z := all2_cons hh
  obtain ⟨e0, h, rfl, g0, hh1⟩ := z
  rcases e0 with ⟨t0, n0, f0⟩ | ⟨ci, fs⟩
  · exact g0.elim
  obtain ⟨rfl, gf⟩ := g0
  have z := all2_cons gf
  clear gf
  obtain ⟨v0, fs, rfl, q0, gf⟩ := z
  cases gT_r (τ := τ) (t := 0) (v := v0) rfl q0
  have z := all2_cons gf
  clear gf
  obtain ⟨v0, fs, rfl, q0, gf⟩ := z
  cases (q0 : v0 = .inr (some (.inl 4)))
  have z := all2_cons gf
  clear gf
  obtain ⟨v0, fs, rfl, q0, gf⟩ := z
  cases (q0 : v0 = .inr (some (.inl 17)))
  have z := all2_cons gf
  clear gf
  obtain ⟨v0, fs, rfl, q0, gf⟩ := z
  cases gT_r (τ := τ) (t := 1) (v := v0) rfl q0
  have z := all2_cons gf
  clear gf
  obtain ⟨v0, fs, rfl, q0, gf⟩ := z
  cases gT_r (τ := τ) (t := 2) (v := v0) rfl q0
  have z := all2_cons gf
  clear gf
  obtain ⟨v0, fs, rfl, q0, gf⟩ := z
  cases (q0 : v0 = .inr (some (.inl 1)))
  have z := all2_cons gf
  clear gf
  obtain ⟨v0, fs, rfl, q0, gf⟩ := z
  cases gT_r (τ := τ) (t := 3) (v := v0) rfl q0
  have z := all2_cons gf
  clear gf
  obtain ⟨v0, fs, rfl, q0, gf⟩ := z
  cases gT_r (τ := τ) (t := 4) (v := v0) rfl q0
  have z := all2_cons gf
  clear gf
  obtain ⟨v0, fs, rfl, q0, gf⟩ := z
  cases gT_r (τ := τ) (t := 5) (v := v0) rfl q0
  have z := all2_cons gf
  clear gf
  obtain ⟨v0, fs, rfl, q0, gf⟩ := z
  cases gT_r (τ := τ) (t := 6) (v := v0) rfl q0
  have z := all2_cons gf
  clear gf
  obtain ⟨v0, fs, rfl, q0, gf⟩ := z
  cases gT_r (τ := τ) (t := 7) (v := v0) rfl q0
  have z := all2_cons gf
  clear gf
  obtain ⟨v0, fs, rfl, q0, gf⟩ := z
  cases gT_r (τ := τ) (t := 8) (v := v0) rfl q0
  have z := all2_cons gf
  clear gf
  obtain ⟨v0, fs, rfl, q0, gf⟩ := z
  cases (q0 : v0 = .inr (some (.inl 10)))
  have z := all2_cons gf
  clear gf
  obtain ⟨v0, fs, rfl, q0, gf⟩ := z
  cases gT_r (τ := τ) (t := 9) (v := v0) rfl q0
  have z := all2_cons gf
  clear gf
  obtain ⟨v0, fs, rfl, q0, gf⟩ := z
  obtain ⟨HS_wasKept, rfl, e_HS_wasKept, b_HS_wasKept⟩ := gT_x (τ := τ) (t := 201) (v := v0) rfl q0
  cases fs with
  | cons _ _ => exact gf.elim
  | nil =>
    refine m_X11_days (Nat.le_of_ble_eq_true rfl) ?_
    refine call0 c_within (by rw [all2_len hh]; rfl) rfl ?_
    rintro r h' ⟨rfl, rfl⟩
    refine br_b (fun z => absurd ((nI_bt (a := 1) (b := 100) (by omega) (by omega) (by omega)).mpr h1) z) (fun _ => ?_)
    refine callZ (τ := τ) (as := [10, 17]) (xs := [nI n]) (rest := []) (a := 1) (ci := 0) (tm := []) (H := HX_daysC) (H2 := HX_daysC) hΦ trivial (z_passDays h1.2) hh (fun K h => h) rfl rfl rfl (by decide +kernel) (by decide +kernel) (by decide +kernel) (by decide +kernel) (fun τ3 p4 p5 y h3 qv q4 => ?_)
    obtain ⟨⟨v, rfl⟩, qv⟩ := qv
    exact ⟨τ3, v, p4, p5, rfl, qv, q4⟩

set_option maxRecDepth 100000 in
theorem n_daysC {l : Launch} {x : Int32} (hx : ¬ (1 ≤ x ∧ x ≤ 100)) : conOkI (MetP l 7 yX11_days cX11_days 2 (some .int) 0 0) [x] (-1) HX_daysC (fun _ => True) := by
  intro τ hΦ hP h hh
  refine m_X11_days (Nat.le_of_ble_eq_true rfl) ?_
  refine call0 c_within (by rw [all2_len hh]; rfl) rfl ?_
  rintro r h' ⟨rfl, rfl⟩
  exact br_b (fun _ => ⟨rfl, rfl⟩) (fun z => absurd z hx)

def HX_keepC : List AC := [.inr (10, [.inr (.inr (some (.inr 0))), .inr (.inr (some (.inr 1))), .inr (.inr (some (.inl 1))), .inr (.inr (some (.inl 6))), .inr (.inr (some (.inr 2))), .inr (.inr (some (.inr 3))), .inr (.inr (some (.inr 4))), .inr (.inr (some (.inr 5))), .inr (.inr (some (.inr 6))), .inr (.inr (some (.inr 7))), .inr (.inr (some (.inr 8))), .inr (.inr (some (.inr 9))), .inr (.inr (some (.inr 10))), .inr (.inr (some (.inr 11))), .inr (.inr (some (.inr 201)))]), .inr (4, [.inr (.inr (some (.inl 2))), .inr (.inr (some (.inl 3))), .inr (.inr (some (.inl 4))), .inr (.inr (some (.inl 5))), .inl (-2147483648, 2147483647), .inl (-2147483648, 2147483647), .inr (.inr (some (.inr 206))), .inl (-2147483648, 2147483647)]), .inl (0, 8, -2147483648, 2147483647), .inl (0, 8, -2147483648, 2147483647), .inl (0, 48, -2147483648, 2147483647), .inl (0, 48, -2147483648, 2147483647), .inr (4, [.inr (.inr (some (.inl 7))), .inr (.inr (some (.inl 8))), .inr (.inr (some (.inl 9))), .inr (.inr (some (.inl 10))), .inl (-2147483648, 2147483647), .inl (-2147483648, 2147483647), .inr (.inr (some (.inr 207))), .inl (-2147483648, 2147483647)]), .inl (0, 8, -2147483648, 2147483647), .inl (0, 8, -2147483648, 2147483647), .inl (0, 48, -2147483648, 2147483647), .inl (0, 48, -2147483648, 2147483647)]
def HY_keepC : List AC := [.inr (10, [.inr (.inr (some (.inr 0))), .inr (.inr (some (.inr 1))), .inr (.inr (some (.inl 1))), .inr (.inr (some (.inl 6))), .inr (.inr (some (.inr 2))), .inr (.inr (some (.inr 3))), .inr (.inr (some (.inr 4))), .inr (.inr (some (.inr 5))), .inr (.inr (some (.inr 6))), .inr (.inr (some (.inr 7))), .inr (.inr (some (.inr 8))), .inr (.inr (some (.inr 9))), .inr (.inr (some (.inr 10))), .inr (.inr (some (.inr 11))), .inl (1, 1)]), .inr (4, [.inr (.inr (some (.inl 2))), .inr (.inr (some (.inl 3))), .inr (.inr (some (.inl 4))), .inr (.inr (some (.inl 5))), .inl (-2147483648, 2147483647), .inl (-2147483648, 2147483647), .inr (.inr (some (.inr 206))), .inl (-2147483648, 2147483647)]), .inl (0, 8, -2147483648, 2147483647), .inl (0, 8, -2147483648, 2147483647), .inl (0, 48, -2147483648, 2147483647), .inl (0, 48, -2147483648, 2147483647), .inr (4, [.inr (.inr (some (.inl 7))), .inr (.inr (some (.inl 8))), .inr (.inr (some (.inl 9))), .inr (.inr (some (.inl 10))), .inl (-2147483648, 2147483647), .inl (-2147483648, 2147483647), .inr (.inr (some (.inr 207))), .inl (-2147483648, 2147483647)]), .inl (0, 8, -2147483648, 2147483647), .inl (0, 8, -2147483648, 2147483647), .inl (0, 48, -2147483648, 2147483647), .inl (0, 48, -2147483648, 2147483647)]
set_option maxRecDepth 100000 in
theorem x_keepC {l : Launch} : conOkX (MetP l 2 yX11_keep cX11_keep 1 (some .int) 0 0) [] HX_keepC HY_keepC (fun t => Nat.beq t 207) (fun _ => True) (fun τ τ' y => y = decA (τ 206) 0 ∧ decA (τ' 207) 0 = decA (τ 206) 0) := by
  intro τ hΦ hP h hh
  have z := all2_cons hh
  obtain ⟨e0, h, rfl, g0, hh1⟩ := z
  rcases e0 with ⟨t0, n0, f0⟩ | ⟨ci, fs⟩
  · exact g0.elim
  obtain ⟨rfl, gf⟩ := g0
  have z := all2_cons gf
  clear gf
  obtain ⟨v0, fs, rfl, q0, gf⟩ := z
  cases gT_r (τ := τ) (t := 0) (v := v0) rfl q0
  have z := all2_cons gf
  clear gf
  obtain ⟨v0, fs, rfl, q0, gf⟩ := z
  cases gT_r (τ := τ) (t := 1) (v := v0) rfl q0
  have z := all2_cons gf
  clear gf
  obtain ⟨v0, fs, rfl, q0, gf⟩ := z
  cases (q0 : v0 = .inr (some (.inl 1)))
  have z := all2_cons gf
  clear gf
  obtain ⟨v0, fs, rfl, q0, gf⟩ := z
  cases (q0 : v0 = .inr (some (.inl 6)))
  have z := all2_cons gf
  clear gf
  obtain ⟨v0, fs, rfl, q0, gf⟩ := z
  cases gT_r (τ := τ) (t := 2) (v := v0) rfl q0
  have z := all2_cons gf
  clear gf
  obtain ⟨v0, fs, rfl, q0, gf⟩ := z
  cases gT_r (τ := τ) (t := 3) (v := v0) rfl q0
  have z := all2_cons gf
  clear gf
  obtain ⟨v0, fs, rfl, q0, gf⟩ := z
  cases gT_r (τ := τ) (t := 4) (v := v0) rfl q0
  have z := all2_cons gf
  clear gf
  obtain ⟨v0, fs, rfl, q0, gf⟩ := z
  cases gT_r (τ := τ) (t := 5) (v := v0) rfl q0
  have z := all2_cons gf
  clear gf
  obtain ⟨v0, fs, rfl, q0, gf⟩ := z
  cases gT_r (τ := τ) (t := 6) (v := v0) rfl q0
  have z := all2_cons gf
  clear gf
  obtain ⟨v0, fs, rfl, q0, gf⟩ := z
  cases gT_r (τ := τ) (t := 7) (v := v0) rfl q0
  have z := all2_cons gf
  clear gf
  obtain ⟨v0, fs, rfl, q0, gf⟩ := z
  cases gT_r (τ := τ) (t := 8) (v := v0) rfl q0
  have z := all2_cons gf
  clear gf
  obtain ⟨v0, fs, rfl, q0, gf⟩ := z
  cases gT_r (τ := τ) (t := 9) (v := v0) rfl q0
  have z := all2_cons gf
  clear gf
  obtain ⟨v0, fs, rfl, q0, gf⟩ := z
  cases gT_r (τ := τ) (t := 10) (v := v0) rfl q0
  have z := all2_cons gf
  clear gf
  obtain ⟨v0, fs, rfl, q0, gf⟩ := z
  cases gT_r (τ := τ) (t := 11) (v := v0) rfl q0
  have z := all2_cons gf
  clear gf
  obtain ⟨v0, fs, rfl, q0, gf⟩ := z
  obtain ⟨HS_wasKept, rfl, e_HS_wasKept, b_HS_wasKept⟩ := gT_x (τ := τ) (t := 201) (v := v0) rfl q0
  cases fs with
  | cons _ _ => exact gf.elim
  | nil =>
    refine m_X11_keep (Nat.le_of_ble_eq_true rfl) ?_
    refine callZ (τ := τ) (as := [1]) (xs := []) (rest := []) (a := 6) (ci := 4) (tm := []) (H := HX_keepC) (H2 := HX_keepC) hΦ trivial z_copyK hh (fun K h => h) rfl rfl rfl (by decide +kernel) (by decide +kernel) (by decide +kernel) (by decide +kernel) (fun τ3 p4 p5 y h3 qv q4 => ?_)
    obtain ⟨rfl, qv⟩ := qv
    have qv : decA (τ3 207) 0 = decA (τ 206) 0 := qv
    have hh := q4
    have z := all2_cons hh
    obtain ⟨e0, h, rfl, g0, hh1⟩ := z
    rcases e0 with ⟨t0, n0, f0⟩ | ⟨ci, fs⟩
    · exact g0.elim
    obtain ⟨rfl, gf⟩ := g0
    have z := all2_cons gf
    clear gf
    obtain ⟨v0, fs, rfl, q0, gf⟩ := z
    cases gT_r (τ := τ3) (t := 0) (v := v0) rfl q0
    have z := all2_cons gf
    clear gf
    obtain ⟨v0, fs, rfl, q0, gf⟩ := z
    cases gT_r (τ := τ3) (t := 1) (v := v0) rfl q0
    have z := all2_cons gf
    clear gf
    obtain ⟨v0, fs, rfl, q0, gf⟩ := z
    cases (q0 : v0 = .inr (some (.inl 1)))
    have z := all2_cons gf
    clear gf
    obtain ⟨v0, fs, rfl, q0, gf⟩ := z
    cases (q0 : v0 = .inr (some (.inl 6)))
    have z := all2_cons gf
    clear gf
    obtain ⟨v0, fs, rfl, q0, gf⟩ := z
    cases gT_r (τ := τ3) (t := 2) (v := v0) rfl q0
    have z := all2_cons gf
    clear gf
    obtain ⟨v0, fs, rfl, q0, gf⟩ := z
    cases gT_r (τ := τ3) (t := 3) (v := v0) rfl q0
    have z := all2_cons gf
    clear gf
    obtain ⟨v0, fs, rfl, q0, gf⟩ := z
    cases gT_r (τ := τ3) (t := 4) (v := v0) rfl q0
    have z := all2_cons gf
    clear gf
    obtain ⟨v0, fs, rfl, q0, gf⟩ := z
    cases gT_r (τ := τ3) (t := 5) (v := v0) rfl q0
    have z := all2_cons gf
    clear gf
    obtain ⟨v0, fs, rfl, q0, gf⟩ := z
    cases gT_r (τ := τ3) (t := 6) (v := v0) rfl q0
    have z := all2_cons gf
    clear gf
    obtain ⟨v0, fs, rfl, q0, gf⟩ := z
    cases gT_r (τ := τ3) (t := 7) (v := v0) rfl q0
    have z := all2_cons gf
    clear gf
    obtain ⟨v0, fs, rfl, q0, gf⟩ := z
    cases gT_r (τ := τ3) (t := 8) (v := v0) rfl q0
    have z := all2_cons gf
    clear gf
    obtain ⟨v0, fs, rfl, q0, gf⟩ := z
    cases gT_r (τ := τ3) (t := 9) (v := v0) rfl q0
    have z := all2_cons gf
    clear gf
    obtain ⟨v0, fs, rfl, q0, gf⟩ := z
    cases gT_r (τ := τ3) (t := 10) (v := v0) rfl q0
    have z := all2_cons gf
    clear gf
    obtain ⟨v0, fs, rfl, q0, gf⟩ := z
    cases gT_r (τ := τ3) (t := 11) (v := v0) rfl q0
    have z := all2_cons gf
    clear gf
    obtain ⟨v0, fs, rfl, q0, gf⟩ := z
    obtain ⟨HS_wasKept, rfl, e_HS_wasKept, b_HS_wasKept⟩ := gT_x (τ := τ3) (t := 201) (v := v0) rfl q0
    cases fs with
    | cons _ _ => exact gf.elim
    | nil =>
      refine And.intro (Or.inr rfl) ?_
      refine callX (τ := τ3) (xs := []) (rest := []) (a := 1) (ci := 4) (tm := []) (H := HY_keepC) (H2 := HY_keepC) p4 trivial x_dayC ⟨⟨rfl, rfl, rfl, rfl, rfl, rfl, rfl, rfl, rfl, rfl, rfl, rfl, rfl, rfl, rfl, ⟨1, rfl, by decide, by decide⟩, trivial⟩, hh1⟩ (fun K h => h) rfl rfl rfl (by decide +kernel) (by decide +kernel) (by decide +kernel) (by decide +kernel) (fun τ4 p6 p7 y h4 qy q5 => ?_)
      have e_ : τ4 = τ3 := funext fun t => p7 t (Bool.and_false _)
      rw [e_] at q5
      have qy : y = decA (τ3 206) 0 := qy
      exact ⟨τ3, y, p4, p5, rfl, ⟨qy.trans (by rw [p5 206 rfl]), qv⟩, q5⟩

def HX_undo0C : List AC := [.inr (10, [.inr (.inr (some (.inr 0))), .inr (.inr (some (.inl 11))), .inr (.inr (some (.inl 1))), .inr (.inr (some (.inl 6))), .inr (.inr (some (.inr 1))), .inr (.inr (some (.inr 2))), .inr (.inr (some (.inr 3))), .inr (.inr (some (.inr 4))), .inr (.inr (some (.inr 5))), .inr (.inr (some (.inr 6))), .inr (.inr (some (.inr 7))), .inr (.inr (some (.inr 8))), .inr (.inr (some (.inr 9))), .inr (.inr (some (.inr 10))), .inl (0, 0)]), .inr (4, [.inr (.inr (some (.inl 2))), .inr (.inr (some (.inl 3))), .inr (.inr (some (.inl 4))), .inr (.inr (some (.inl 5))), .inl (-2147483648, 2147483647), .inl (-2147483648, 2147483647), .inr (.inr (some (.inr 206))), .inl (-2147483648, 2147483647)]), .inl (0, 8, -2147483648, 2147483647), .inl (0, 8, -2147483648, 2147483647), .inl (0, 48, -2147483648, 2147483647), .inl (0, 48, -2147483648, 2147483647), .inr (4, [.inr (.inr (some (.inl 7))), .inr (.inr (some (.inl 8))), .inr (.inr (some (.inl 9))), .inr (.inr (some (.inl 10))), .inl (-2147483648, 2147483647), .inl (-2147483648, 2147483647), .inr (.inr (some (.inr 207))), .inl (-2147483648, 2147483647)]), .inl (0, 8, -2147483648, 2147483647), .inl (0, 8, -2147483648, 2147483647), .inl (0, 48, -2147483648, 2147483647), .inl (0, 48, -2147483648, 2147483647), .inr (6, [.inr (.inr (some (.inl 12))), .inr (.inr (some (.inl 13))), .inr (.inr (some (.inl 14))), .inr (.inr (some (.inl 15))), .inr (.inr (some (.inl 16))), .inl (-2147483648, 2147483647), .inl (-2147483648, 2147483647), .inl (0, 48)]), .inl (0, 8, -2147483648, 2147483647), .inl (0, 8, -2147483648, 2147483647), .inl (2, 384, 0, 1), .inl (0, 48, -2147483648, 2147483647), .inl (0, 48, -2147483648, 2147483647)]
set_option maxRecDepth 100000 in
theorem x_undo0C {l : Launch} : conOkX (MetP l 2 yX11_undo cX11_undo 1 (some .boolean) 0 0) [] HX_undo0C HX_undo0C (fun t => false) (fun _ => True) (fun τ τ' y => True) := by
  intro τ hΦ hP h hh
  have z := all2_cons hh
  obtain ⟨e0, h, rfl, g0, hh1⟩ := z
  rcases e0 with ⟨t0, n0, f0⟩ | ⟨ci, fs⟩
  · exact g0.elim
  obtain ⟨rfl, gf⟩ := g0
  have z := all2_cons gf
  clear gf
  obtain ⟨v0, fs, rfl, q0, gf⟩ := z
  cases gT_r (τ := τ) (t := 0) (v := v0) rfl q0
  have z := all2_cons gf
  clear gf
  obtain ⟨v0, fs, rfl, q0, gf⟩ := z
  cases (q0 : v0 = .inr (some (.inl 11)))
  have z := all2_cons gf
  clear gf
  obtain ⟨v0, fs, rfl, q0, gf⟩ := z
  cases (q0 : v0 = .inr (some (.inl 1)))
  have z := all2_cons gf
  clear gf
  obtain ⟨v0, fs, rfl, q0, gf⟩ := z
  cases (q0 : v0 = .inr (some (.inl 6)))
  have z := all2_cons gf
  clear gf
  obtain ⟨v0, fs, rfl, q0, gf⟩ := z
  cases gT_r (τ := τ) (t := 1) (v := v0) rfl q0
  have z := all2_cons gf
  clear gf
  obtain ⟨v0, fs, rfl, q0, gf⟩ := z
  cases gT_r (τ := τ) (t := 2) (v := v0) rfl q0
  have z := all2_cons gf
  clear gf
  obtain ⟨v0, fs, rfl, q0, gf⟩ := z
  cases gT_r (τ := τ) (t := 3) (v := v0) rfl q0
  have z := all2_cons gf
  clear gf
  obtain ⟨v0, fs, rfl, q0, gf⟩ := z
  cases gT_r (τ := τ) (t := 4) (v := v0) rfl q0
  have z := all2_cons gf
  clear gf
  obtain ⟨v0, fs, rfl, q0, gf⟩ := z
  cases gT_r (τ := τ) (t := 5) (v := v0) rfl q0
  have z := all2_cons gf
  clear gf
  obtain ⟨v0, fs, rfl, q0, gf⟩ := z
  cases gT_r (τ := τ) (t := 6) (v := v0) rfl q0
  have z := all2_cons gf
  clear gf
  obtain ⟨v0, fs, rfl, q0, gf⟩ := z
  cases gT_r (τ := τ) (t := 7) (v := v0) rfl q0
  have z := all2_cons gf
  clear gf
  obtain ⟨v0, fs, rfl, q0, gf⟩ := z
  cases gT_r (τ := τ) (t := 8) (v := v0) rfl q0
  have z := all2_cons gf
  clear gf
  obtain ⟨v0, fs, rfl, q0, gf⟩ := z
  cases gT_r (τ := τ) (t := 9) (v := v0) rfl q0
  have z := all2_cons gf
  clear gf
  obtain ⟨v0, fs, rfl, q0, gf⟩ := z
  cases gT_r (τ := τ) (t := 10) (v := v0) rfl q0
  have z := all2_cons gf
  clear gf
  obtain ⟨v0, fs, rfl, q0, gf⟩ := z
  obtain ⟨HS_wasKept, rfl, b_HS_wasKept⟩ := q0
  cases fs with
  | cons _ _ => exact gf.elim
  | nil =>
    obtain rfl : HS_wasKept = 0 := i32eq.mpr (show HS_wasKept.toInt = 0 by omega)
    refine m_X11_undo (Nat.le_of_ble_eq_true rfl) ?_
    exact And.intro (fun _ => And.intro (Or.inl rfl) ⟨τ, 0, hΦ, fun _ _ => rfl, rfl, trivial, hh⟩) (fun z => absurd rfl z)

def HX_undo1C : List AC := [.inr (10, [.inr (.inr (some (.inr 0))), .inr (.inr (some (.inl 11))), .inr (.inr (some (.inl 1))), .inr (.inr (some (.inl 6))), .inr (.inr (some (.inr 1))), .inr (.inr (some (.inr 2))), .inr (.inr (some (.inr 3))), .inr (.inr (some (.inr 4))), .inr (.inr (some (.inr 5))), .inr (.inr (some (.inr 6))), .inr (.inr (some (.inr 7))), .inr (.inr (some (.inr 8))), .inr (.inr (some (.inr 9))), .inr (.inr (some (.inr 10))), .inl (1, 1)]), .inr (4, [.inr (.inr (some (.inl 2))), .inr (.inr (some (.inl 3))), .inr (.inr (some (.inl 4))), .inr (.inr (some (.inl 5))), .inl (-2147483648, 2147483647), .inl (-2147483648, 2147483647), .inr (.inr (some (.inr 206))), .inl (-2147483648, 2147483647)]), .inl (0, 8, -2147483648, 2147483647), .inl (0, 8, -2147483648, 2147483647), .inl (0, 48, -2147483648, 2147483647), .inl (0, 48, -2147483648, 2147483647), .inr (4, [.inr (.inr (some (.inl 7))), .inr (.inr (some (.inl 8))), .inr (.inr (some (.inl 9))), .inr (.inr (some (.inl 10))), .inl (-2147483648, 2147483647), .inl (-2147483648, 2147483647), .inr (.inr (some (.inr 207))), .inl (-2147483648, 2147483647)]), .inl (0, 8, -2147483648, 2147483647), .inl (0, 8, -2147483648, 2147483647), .inl (0, 48, -2147483648, 2147483647), .inl (0, 48, -2147483648, 2147483647), .inr (6, [.inr (.inr (some (.inl 12))), .inr (.inr (some (.inl 13))), .inr (.inr (some (.inl 14))), .inr (.inr (some (.inl 15))), .inr (.inr (some (.inl 16))), .inl (-2147483648, 2147483647), .inl (-2147483648, 2147483647), .inl (0, 48)]), .inl (0, 8, -2147483648, 2147483647), .inl (0, 8, -2147483648, 2147483647), .inl (2, 384, 0, 1), .inl (0, 48, -2147483648, 2147483647), .inl (0, 48, -2147483648, 2147483647)]
set_option maxRecDepth 100000 in
theorem x_undo1C {l : Launch} : conOkX (MetP l 2 yX11_undo cX11_undo 1 (some .boolean) 0 0) [] HX_undo1C HX_undo1C (fun t => Nat.beq t 206) (fun _ => True) (fun τ τ' y => decA (τ' 206) 0 = decA (τ 207) 0) := by
  intro τ hΦ hP h hh
  have z := all2_cons hh
  obtain ⟨e0, h, rfl, g0, hh1⟩ := z
  rcases e0 with ⟨t0, n0, f0⟩ | ⟨ci, fs⟩
  · exact g0.elim
  obtain ⟨rfl, gf⟩ := g0
  have z := all2_cons gf
  clear gf
  obtain ⟨v0, fs, rfl, q0, gf⟩ := z
  cases gT_r (τ := τ) (t := 0) (v := v0) rfl q0
  have z := all2_cons gf
  clear gf
  obtain ⟨v0, fs, rfl, q0, gf⟩ := z
  cases (q0 : v0 = .inr (some (.inl 11)))
  have z := all2_cons gf
  clear gf
  obtain ⟨v0, fs, rfl, q0, gf⟩ := z
  cases (q0 : v0 = .inr (some (.inl 1)))
  have z := all2_cons gf
  clear gf
  obtain ⟨v0, fs, rfl, q0, gf⟩ := z
  cases (q0 : v0 = .inr (some (.inl 6)))
  have z := all2_cons gf
  clear gf
  obtain ⟨v0, fs, rfl, q0, gf⟩ := z
  cases gT_r (τ := τ) (t := 1) (v := v0) rfl q0
  have z := all2_cons gf
  clear gf
  obtain ⟨v0, fs, rfl, q0, gf⟩ := z
  cases gT_r (τ := τ) (t := 2) (v := v0) rfl q0
  have z := all2_cons gf
  clear gf
  obtain ⟨v0, fs, rfl, q0, gf⟩ := z
  cases gT_r (τ := τ) (t := 3) (v := v0) rfl q0
  have z := all2_cons gf
  clear gf
  obtain ⟨v0, fs, rfl, q0, gf⟩ := z
  cases gT_r (τ := τ) (t := 4) (v := v0) rfl q0
  have z := all2_cons gf
  clear gf
  obtain ⟨v0, fs, rfl, q0, gf⟩ := z
  cases gT_r (τ := τ) (t := 5) (v := v0) rfl q0
  have z := all2_cons gf
  clear gf
  obtain ⟨v0, fs, rfl, q0, gf⟩ := z
  cases gT_r (τ := τ) (t := 6) (v := v0) rfl q0
  have z := all2_cons gf
  clear gf
  obtain ⟨v0, fs, rfl, q0, gf⟩ := z
  cases gT_r (τ := τ) (t := 7) (v := v0) rfl q0
  have z := all2_cons gf
  clear gf
  obtain ⟨v0, fs, rfl, q0, gf⟩ := z
  cases gT_r (τ := τ) (t := 8) (v := v0) rfl q0
  have z := all2_cons gf
  clear gf
  obtain ⟨v0, fs, rfl, q0, gf⟩ := z
  cases gT_r (τ := τ) (t := 9) (v := v0) rfl q0
  have z := all2_cons gf
  clear gf
  obtain ⟨v0, fs, rfl, q0, gf⟩ := z
  cases gT_r (τ := τ) (t := 10) (v := v0) rfl q0
  have z := all2_cons gf
  clear gf
  obtain ⟨v0, fs, rfl, q0, gf⟩ := z
  obtain ⟨HS_wasKept, rfl, b_HS_wasKept⟩ := q0
  cases fs with
  | cons _ _ => exact gf.elim
  | nil =>
    obtain rfl : HS_wasKept = 1 := i32eq.mpr (show HS_wasKept.toInt = 1 by omega)
    refine m_X11_undo (Nat.le_of_ble_eq_true rfl) ?_
    refine And.intro (fun z => absurd z (by show ¬ ((_ : Int32) = _); decide)) (fun _ => ?_)
    refine callZ (τ := τ) (as := [6]) (xs := []) (rest := []) (a := 1) (ci := 4) (tm := []) (H := HX_undo1C) (H2 := HX_undo1C) hΦ trivial z_copyU hh (fun K h => h) rfl rfl rfl (by decide +kernel) (by decide +kernel) (by decide +kernel) (by decide +kernel) (fun τ3 p4 p5 y h3 qv q4 => ?_)
    obtain ⟨rfl, qv⟩ := qv
    have qv : decA (τ3 206) 0 = decA (τ 207) 0 := qv
    have hh := q4
    have z := all2_cons hh
    obtain ⟨e0, h, rfl, g0, hh1⟩ := z
    rcases e0 with ⟨t0, n0, f0⟩ | ⟨ci, fs⟩
    · exact g0.elim
    obtain ⟨rfl, gf⟩ := g0
    have z := all2_cons gf
    clear gf
    obtain ⟨v0, fs, rfl, q0, gf⟩ := z
    cases gT_r (τ := τ3) (t := 0) (v := v0) rfl q0
    have z := all2_cons gf
    clear gf
    obtain ⟨v0, fs, rfl, q0, gf⟩ := z
    cases (q0 : v0 = .inr (some (.inl 11)))
    have z := all2_cons gf
    clear gf
    obtain ⟨v0, fs, rfl, q0, gf⟩ := z
    cases (q0 : v0 = .inr (some (.inl 1)))
    have z := all2_cons gf
    clear gf
    obtain ⟨v0, fs, rfl, q0, gf⟩ := z
    cases (q0 : v0 = .inr (some (.inl 6)))
    have z := all2_cons gf
    clear gf
    obtain ⟨v0, fs, rfl, q0, gf⟩ := z
    cases gT_r (τ := τ3) (t := 1) (v := v0) rfl q0
    have z := all2_cons gf
    clear gf
    obtain ⟨v0, fs, rfl, q0, gf⟩ := z
    cases gT_r (τ := τ3) (t := 2) (v := v0) rfl q0
    have z := all2_cons gf
    clear gf
    obtain ⟨v0, fs, rfl, q0, gf⟩ := z
    cases gT_r (τ := τ3) (t := 3) (v := v0) rfl q0
    have z := all2_cons gf
    clear gf
    obtain ⟨v0, fs, rfl, q0, gf⟩ := z
    cases gT_r (τ := τ3) (t := 4) (v := v0) rfl q0
    have z := all2_cons gf
    clear gf
    obtain ⟨v0, fs, rfl, q0, gf⟩ := z
    cases gT_r (τ := τ3) (t := 5) (v := v0) rfl q0
    have z := all2_cons gf
    clear gf
    obtain ⟨v0, fs, rfl, q0, gf⟩ := z
    cases gT_r (τ := τ3) (t := 6) (v := v0) rfl q0
    have z := all2_cons gf
    clear gf
    obtain ⟨v0, fs, rfl, q0, gf⟩ := z
    cases gT_r (τ := τ3) (t := 7) (v := v0) rfl q0
    have z := all2_cons gf
    clear gf
    obtain ⟨v0, fs, rfl, q0, gf⟩ := z
    cases gT_r (τ := τ3) (t := 8) (v := v0) rfl q0
    have z := all2_cons gf
    clear gf
    obtain ⟨v0, fs, rfl, q0, gf⟩ := z
    cases gT_r (τ := τ3) (t := 9) (v := v0) rfl q0
    have z := all2_cons gf
    clear gf
    obtain ⟨v0, fs, rfl, q0, gf⟩ := z
    cases gT_r (τ := τ3) (t := 10) (v := v0) rfl q0
    have z := all2_cons gf
    clear gf
    obtain ⟨v0, fs, rfl, q0, gf⟩ := z
    obtain ⟨HS_wasKept, rfl, b_HS_wasKept⟩ := q0
    cases fs with
    | cons _ _ => exact gf.elim
    | nil =>
      refine callT (τ := τ3) (tm := []) (A := [.inr (.inr (some (.inl 11))), .inr (.inr (some (.inl 1)))]) (H := HX_undo1C) (Ts := [([topA, .inr (.inr (some (.inl 1)))], HX_undo1C)]) p4 s_X7_stamps ⟨rfl, rfl, trivial⟩ hh (by decide +kernel) (fun T hT st h5 q2 q3 => ?_)
      cases List.mem_singleton.mp hT
      obtain ⟨v, w, rfl, hv, hw⟩ := dst2 q2
      obtain ⟨v, rfl, _⟩ := hv
      cases (hw : w = .inr (some (.inl 1)))
      refine callT (τ := τ3) (tm := []) (A := [topA, .inr (.inr (some (.inl 1)))]) (H := HX_undo1C) (Ts := [([], HX_undo1C)]) p4 s_X4_peelFrom_d ⟨topA_ok _, rfl, trivial⟩ q3 (by decide +kernel) (fun T hT st h6 q5 q6 => ?_)
      cases List.mem_singleton.mp hT
      cases st with
      | cons _ _ => exact q5.elim
      | nil => exact And.intro (Or.inr rfl) ⟨τ3, 1, p4, p5, rfl, qv, q6⟩

def HX_daysR : List AC := [.inr (11, [.inr (.inr (some (.inl 1))), .inr (.inr (some (.inr 0))), .inr (.inr (some (.inr 1))), .inr (.inr (some (.inl 2))), .inr (.inr (some (.inl 3))), .inr (.inr (some (.inl 4))), .inr (.inr (some (.inl 5))), .inr (.inr (some (.inr 2))), .inl (0, 48), .inr (.inr (some (.inr 3))), .inl (0, 260), .inl (0, 240), .inl (0, 240), .inl (-2147483648, 2147483647), .inl (-2147483648, 2147483647), .inl (-2147483648, 2147483647), .inl (0, 260), .inl (0, 260), .inl (0, 16), .inr (.inr (some (.inr 200))), .inr (.inr (some (.inr 4))), .inr (.inr (some (.inr 5))), .inr (.inr (some (.inr 6))), .inr (.inr (some (.inr 7))), .inr (.inr (some (.inr 8))), .inr (.inr (some (.inr 9))), .inr (.inr (some (.inl 6))), .inr (.inr (some (.inl 7))), .inr (.inr (some (.inl 8))), .inr (.inr (some (.inl 9))), .inr (.inr (some (.inl 10))), .inr (.inr (some (.inl 11))), .inr (.inr (some (.inl 12))), .inr (.inr (some (.inr 10))), .inr (.inr (some (.inr 11))), .inr (.inr (some (.inr 12))), .inr (.inr (some (.inr 13))), .inl (-2147483648, 2147483647), .inl (-2147483648, 2147483647), .inl (-2147483648, 2147483647), .inl (-2147483648, 2147483647), .inl (-2147483648, 2147483647), .inl (-2147483648, 2147483647), .inl (-2147483648, 2147483647), .inl (-2147483648, 2147483647), .inl (-2147483648, 2147483647), .inl (-2147483648, 2147483647), .inr (.inr (some (.inl 13))), .inr (.inr (some (.inr 14))), .inr (.inr (some (.inr 15))), .inr (.inr (some (.inr 16))), .inr (.inr (some (.inr 17))), .inr (.inr (some (.inr 201)))]), .inl (600, 130, 0, 383), .inl (0, 8, -1, 383), .inl (0, 48, 0, 7), .inl (0, 48, 0, 2), .inl (2, 384, 0, 1), .inl (5, 260, 100, 0), .inl (0, 16, -2147483648, 2147483647), .inl (5, 16, 101, 0), .inl (5, 16, 102, 0), .inl (5, 16, 103, 0), .inl (0, 260, -2147483648, 2147483647), .inl (0, 9, -2147483648, 2147483647), .inl (0, 48, -2147483648, 2147483647)]
theorem segD_at {τ : Nat → List (Option Nat)} {d : Int32} {f : Nat → Int32} (b : (∀ i, 8 ≤ i → i ≤ 15 → 0 ≤ (f i).toInt ∧ (f i).toInt ≤ 383) ∧ f 128 = d) : segD (decA (upL τ 208 [some (natOf d)] 208) 0) f := ⟨b.1, b.2.trans (natOf_ok d).symm⟩
set_option maxRecDepth 100000 in
theorem x_daysR {l : Launch} {n : Nat} (h1 : 1 ≤ n ∧ n ≤ 100) : conOkX (MetP l 9 yX12_days cX12_days 2 (some .int) 0 0) [nI n] HX_daysR HX_daysR (fun t => Nat.beq t 208) (fun _ => True) (fun τ τ' _ => decA (τ' 208) 0 = dyF (decA (τ 208) 0) n) := by
  intro τ hΦ hP h hh
  have z := all2_cons hh
  clear hh
  obtain ⟨e0, h, rfl, g0, hh⟩ := z
  rcases e0 with ⟨t0, n0, f0⟩ | ⟨ci, fs⟩
  · exact g0.elim
  obtain ⟨rfl, gf⟩ := g0
  have z := all2_cons gf
  clear gf
  obtain ⟨v0, fs, rfl, q0, gf⟩ := z
  cases (q0 : v0 = .inr (some (.inl 1)))
  have z := all2_cons gf
  clear gf
  obtain ⟨v0, fs, rfl, q0, gf⟩ := z
  cases gT_r (τ := τ) (t := 0) (v := v0) rfl q0
  have z := all2_cons gf
  clear gf
  obtain ⟨v0, fs, rfl, q0, gf⟩ := z
  cases gT_r (τ := τ) (t := 1) (v := v0) rfl q0
  have z := all2_cons gf
  clear gf
  obtain ⟨v0, fs, rfl, q0, gf⟩ := z
  cases (q0 : v0 = .inr (some (.inl 2)))
  have z := all2_cons gf
  clear gf
  obtain ⟨v0, fs, rfl, q0, gf⟩ := z
  cases (q0 : v0 = .inr (some (.inl 3)))
  have z := all2_cons gf
  clear gf
  obtain ⟨v0, fs, rfl, q0, gf⟩ := z
  cases (q0 : v0 = .inr (some (.inl 4)))
  have z := all2_cons gf
  clear gf
  obtain ⟨v0, fs, rfl, q0, gf⟩ := z
  cases (q0 : v0 = .inr (some (.inl 5)))
  have z := all2_cons gf
  clear gf
  obtain ⟨v0, fs, rfl, q0, gf⟩ := z
  cases gT_r (τ := τ) (t := 2) (v := v0) rfl q0
  have z := all2_cons gf
  clear gf
  obtain ⟨v0, fs, rfl, q0, gf⟩ := z
  obtain ⟨M_stampMany, rfl, b_M_stampMany⟩ := q0
  have z := all2_cons gf
  clear gf
  obtain ⟨v0, fs, rfl, q0, gf⟩ := z
  cases gT_r (τ := τ) (t := 3) (v := v0) rfl q0
  have z := all2_cons gf
  clear gf
  obtain ⟨v0, fs, rfl, q0, gf⟩ := z
  obtain ⟨M_taped, rfl, b_M_taped⟩ := q0
  have z := all2_cons gf
  clear gf
  obtain ⟨v0, fs, rfl, q0, gf⟩ := z
  obtain ⟨M_place0, rfl, b_M_place0⟩ := q0
  have z := all2_cons gf
  clear gf
  obtain ⟨v0, fs, rfl, q0, gf⟩ := z
  obtain ⟨M_length0, rfl, b_M_length0⟩ := q0
  have z := all2_cons gf
  clear gf
  obtain ⟨v0, fs, rfl, q0, gf⟩ := z
  obtain ⟨M_fault, rfl, b_M_fault⟩ := q0
  have z := all2_cons gf
  clear gf
  obtain ⟨v0, fs, rfl, q0, gf⟩ := z
  obtain ⟨M_number0, rfl, b_M_number0⟩ := q0
  have z := all2_cons gf
  clear gf
  obtain ⟨v0, fs, rfl, q0, gf⟩ := z
  obtain ⟨M_open, rfl, b_M_open⟩ := q0
  have z := all2_cons gf
  clear gf
  obtain ⟨v0, fs, rfl, q0, gf⟩ := z
  obtain ⟨M_codeMany, rfl, b_M_codeMany⟩ := q0
  have z := all2_cons gf
  clear gf
  obtain ⟨v0, fs, rfl, q0, gf⟩ := z
  obtain ⟨M_waiting, rfl, b_M_waiting⟩ := q0
  have z := all2_cons gf
  clear gf
  obtain ⟨v0, fs, rfl, q0, gf⟩ := z
  obtain ⟨M_saidMany, rfl, b_M_saidMany⟩ := q0
  have z := all2_cons gf
  clear gf
  obtain ⟨v0, fs, rfl, q0, gf⟩ := z
  obtain ⟨M_clauses, rfl, e_M_clauses, b_M_clauses⟩ := gT_x (τ := τ) (t := 200) (v := v0) rfl q0
  have z := all2_cons gf
  clear gf
  obtain ⟨v0, fs, rfl, q0, gf⟩ := z
  cases gT_r (τ := τ) (t := 4) (v := v0) rfl q0
  have z := all2_cons gf
  clear gf
  obtain ⟨v0, fs, rfl, q0, gf⟩ := z
  cases gT_r (τ := τ) (t := 5) (v := v0) rfl q0
  have z := all2_cons gf
  clear gf
  obtain ⟨v0, fs, rfl, q0, gf⟩ := z
  cases gT_r (τ := τ) (t := 6) (v := v0) rfl q0
  have z := all2_cons gf
  clear gf
  obtain ⟨v0, fs, rfl, q0, gf⟩ := z
  cases gT_r (τ := τ) (t := 7) (v := v0) rfl q0
  have z := all2_cons gf
  clear gf
  obtain ⟨v0, fs, rfl, q0, gf⟩ := z
  cases gT_r (τ := τ) (t := 8) (v := v0) rfl q0
  have z := all2_cons gf
  clear gf
  obtain ⟨v0, fs, rfl, q0, gf⟩ := z
  cases gT_r (τ := τ) (t := 9) (v := v0) rfl q0
  have z := all2_cons gf
  clear gf
  obtain ⟨v0, fs, rfl, q0, gf⟩ := z
  cases (q0 : v0 = .inr (some (.inl 6)))
  have z := all2_cons gf
  clear gf
  obtain ⟨v0, fs, rfl, q0, gf⟩ := z
  cases (q0 : v0 = .inr (some (.inl 7)))
  have z := all2_cons gf
  clear gf
  obtain ⟨v0, fs, rfl, q0, gf⟩ := z
  cases (q0 : v0 = .inr (some (.inl 8)))
  have z := all2_cons gf
  clear gf
  obtain ⟨v0, fs, rfl, q0, gf⟩ := z
  cases (q0 : v0 = .inr (some (.inl 9)))
  have z := all2_cons gf
  clear gf
  obtain ⟨v0, fs, rfl, q0, gf⟩ := z
  cases (q0 : v0 = .inr (some (.inl 10)))
  have z := all2_cons gf
  clear gf
  obtain ⟨v0, fs, rfl, q0, gf⟩ := z
  cases (q0 : v0 = .inr (some (.inl 11)))
  have z := all2_cons gf
  clear gf
  obtain ⟨v0, fs, rfl, q0, gf⟩ := z
  cases (q0 : v0 = .inr (some (.inl 12)))
  have z := all2_cons gf
  clear gf
  obtain ⟨v0, fs, rfl, q0, gf⟩ := z
  cases gT_r (τ := τ) (t := 10) (v := v0) rfl q0
  have z := all2_cons gf
  clear gf
  obtain ⟨v0, fs, rfl, q0, gf⟩ := z
  cases gT_r (τ := τ) (t := 11) (v := v0) rfl q0
  have z := all2_cons gf
  clear gf
  obtain ⟨v0, fs, rfl, q0, gf⟩ := z
  cases gT_r (τ := τ) (t := 12) (v := v0) rfl q0
  have z := all2_cons gf
  clear gf
  obtain ⟨v0, fs, rfl, q0, gf⟩ := z
  cases gT_r (τ := τ) (t := 13) (v := v0) rfl q0
  have z := all2_cons gf
  clear gf
  obtain ⟨v0, fs, rfl, q0, gf⟩ := z
  obtain ⟨M_newMany, rfl, b_M_newMany⟩ := q0
  have z := all2_cons gf
  clear gf
  obtain ⟨v0, fs, rfl, q0, gf⟩ := z
  obtain ⟨M_rounds, rfl, b_M_rounds⟩ := q0
  have z := all2_cons gf
  clear gf
  obtain ⟨v0, fs, rfl, q0, gf⟩ := z
  obtain ⟨M_stampFrom, rfl, b_M_stampFrom⟩ := q0
  have z := all2_cons gf
  clear gf
  obtain ⟨v0, fs, rfl, q0, gf⟩ := z
  obtain ⟨M_stampTimes, rfl, b_M_stampTimes⟩ := q0
  have z := all2_cons gf
  clear gf
  obtain ⟨v0, fs, rfl, q0, gf⟩ := z
  obtain ⟨M_lines, rfl, b_M_lines⟩ := q0
  have z := all2_cons gf
  clear gf
  obtain ⟨v0, fs, rfl, q0, gf⟩ := z
  obtain ⟨M_spot0, rfl, b_M_spot0⟩ := q0
  have z := all2_cons gf
  clear gf
  obtain ⟨v0, fs, rfl, q0, gf⟩ := z
  obtain ⟨M_pullAcross, rfl, b_M_pullAcross⟩ := q0
  have z := all2_cons gf
  clear gf
  obtain ⟨v0, fs, rfl, q0, gf⟩ := z
  obtain ⟨M_pullAlong, rfl, b_M_pullAlong⟩ := q0
  have z := all2_cons gf
  clear gf
  obtain ⟨v0, fs, rfl, q0, gf⟩ := z
  obtain ⟨M_stepsNow, rfl, b_M_stepsNow⟩ := q0
  have z := all2_cons gf
  clear gf
  obtain ⟨v0, fs, rfl, q0, gf⟩ := z
  obtain ⟨M_fallenNow, rfl, b_M_fallenNow⟩ := q0
  have z := all2_cons gf
  clear gf
  obtain ⟨v0, fs, rfl, q0, gf⟩ := z
  cases (q0 : v0 = .inr (some (.inl 13)))
  have z := all2_cons gf
  clear gf
  obtain ⟨v0, fs, rfl, q0, gf⟩ := z
  cases gT_r (τ := τ) (t := 14) (v := v0) rfl q0
  have z := all2_cons gf
  clear gf
  obtain ⟨v0, fs, rfl, q0, gf⟩ := z
  cases gT_r (τ := τ) (t := 15) (v := v0) rfl q0
  have z := all2_cons gf
  clear gf
  obtain ⟨v0, fs, rfl, q0, gf⟩ := z
  cases gT_r (τ := τ) (t := 16) (v := v0) rfl q0
  have z := all2_cons gf
  clear gf
  obtain ⟨v0, fs, rfl, q0, gf⟩ := z
  cases gT_r (τ := τ) (t := 17) (v := v0) rfl q0
  have z := all2_cons gf
  clear gf
  obtain ⟨v0, fs, rfl, q0, gf⟩ := z
  obtain ⟨M_isKept, rfl, e_M_isKept, b_M_isKept⟩ := gT_x (τ := τ) (t := 201) (v := v0) rfl q0
  cases fs with
  | cons _ _ => exact gf.elim
  | nil =>
    have z := all2_cons hh
    clear hh
    obtain ⟨e1, h, rfl, g1, hh⟩ := z
    rcases e1 with ⟨t1, n1, M_now⟩ | ⟨ci, fs⟩
    rotate_left
    · exact g1.elim
    obtain ⟨et, en, b_M_now⟩ := g1
    cases (et : t1 = 0)
    cases en
    have z := all2_cons hh
    clear hh
    obtain ⟨e1, h, rfl, g1, hh⟩ := z
    rcases e1 with ⟨t1, n1, M_mintAt⟩ | ⟨ci, fs⟩
    rotate_left
    · exact g1.elim
    obtain ⟨et, en, b_M_mintAt⟩ := g1
    cases (et : t1 = 0)
    cases en
    have z := all2_cons hh
    clear hh
    obtain ⟨e1, h, rfl, g1, hh⟩ := z
    rcases e1 with ⟨t1, n1, M_mintOf⟩ | ⟨ci, fs⟩
    rotate_left
    · exact g1.elim
    obtain ⟨et, en, b_M_mintOf⟩ := g1
    cases (et : t1 = 0)
    cases en
    have z := all2_cons hh
    clear hh
    obtain ⟨e1, h, rfl, g1, hh⟩ := z
    rcases e1 with ⟨t1, n1, M_wholeOf⟩ | ⟨ci, fs⟩
    rotate_left
    · exact g1.elim
    obtain ⟨et, en, b_M_wholeOf⟩ := g1
    cases (et : t1 = 0)
    cases en
    have z := all2_cons hh
    clear hh
    obtain ⟨e1, h, rfl, g1, hh⟩ := z
    rcases e1 with ⟨t1, n1, M_isWall⟩ | ⟨ci, fs⟩
    rotate_left
    · exact g1.elim
    obtain ⟨et, en, b_M_isWall⟩ := g1
    cases (et : t1 = 2)
    cases en
    have z := all2_cons hh
    clear hh
    obtain ⟨e1, h, rfl, g1, hh⟩ := z
    rcases e1 with ⟨t1, n1, M_codes⟩ | ⟨ci, fs⟩
    rotate_left
    · exact g1.elim
    obtain ⟨et, en, b_M_codes⟩ := g1
    cases (et : t1 = 0)
    cases en
    have z := all2_cons hh
    clear hh
    obtain ⟨e1, h, rfl, g1, hh⟩ := z
    rcases e1 with ⟨t1, n1, M_clauseOf⟩ | ⟨ci, fs⟩
    rotate_left
    · exact g1.elim
    obtain ⟨et, en, b_M_clauseOf⟩ := g1
    cases (et : t1 = 0)
    cases en
    have z := all2_cons hh
    clear hh
    obtain ⟨e1, h, rfl, g1, hh⟩ := z
    rcases e1 with ⟨t1, n1, M_codeFrom⟩ | ⟨ci, fs⟩
    rotate_left
    · exact g1.elim
    obtain ⟨et, en, b_M_codeFrom⟩ := g1
    cases (et : t1 = 0)
    cases en
    have z := all2_cons hh
    clear hh
    obtain ⟨e1, h, rfl, g1, hh⟩ := z
    rcases e1 with ⟨t1, n1, M_codeHalf⟩ | ⟨ci, fs⟩
    rotate_left
    · exact g1.elim
    obtain ⟨et, en, b_M_codeHalf⟩ := g1
    cases (et : t1 = 0)
    cases en
    have z := all2_cons hh
    clear hh
    obtain ⟨e1, h, rfl, g1, hh⟩ := z
    rcases e1 with ⟨t1, n1, M_codeTo⟩ | ⟨ci, fs⟩
    rotate_left
    · exact g1.elim
    obtain ⟨et, en, b_M_codeTo⟩ := g1
    cases (et : t1 = 0)
    cases en
    have z := all2_cons hh
    clear hh
    obtain ⟨e1, h, rfl, g1, hh⟩ := z
    rcases e1 with ⟨t1, n1, M_stack⟩ | ⟨ci, fs⟩
    rotate_left
    · exact g1.elim
    obtain ⟨et, en, b_M_stack⟩ := g1
    cases (et : t1 = 0)
    cases en
    have z := all2_cons hh
    clear hh
    obtain ⟨e1, h, rfl, g1, hh⟩ := z
    rcases e1 with ⟨t1, n1, M_facts⟩ | ⟨ci, fs⟩
    rotate_left
    · exact g1.elim
    obtain ⟨et, en, b_M_facts⟩ := g1
    cases (et : t1 = 0)
    cases en
    have z := all2_cons hh
    clear hh
    obtain ⟨e1, h, rfl, g1, hh⟩ := z
    rcases e1 with ⟨t1, n1, M_usesNow⟩ | ⟨ci, fs⟩
    rotate_left
    · exact g1.elim
    obtain ⟨et, en, b_M_usesNow⟩ := g1
    cases (et : t1 = 0)
    cases en
    cases h with
    | cons _ _ => exact hh.elim
    | nil =>
      have sg := seg6_of (t := 600) rfl rfl b_M_now
      refine (c_X12_days h1.1 h1.2 b_M_stampMany sg.1 (rg_of b_M_mintOf) (rg_of b_M_mintAt) (by rw [e_M_clauses]; exact lawC_congr hΦ (ex_of b_M_codes) (ex_of b_M_codeFrom) (ex_of b_M_codeHalf) (ex_of b_M_codeTo))).mono (fun r h' hp => ?_)
      obtain ⟨y, nw, fc, sk, us, pa, pl, fl, sn, rfl, k1, rfl⟩ := hp
      have e8 : dyF (M_now 128) n = dyF (decA (τ 208) 0) n := congrArg (fun d => dyF d n) sg.2
      exact ⟨upL τ 208 [some (natOf (dyF (M_now 128) n))], y, hΦ, fun t ht => upL_ne (ch_ne ht rfl), rfl, (natOf_ok _).trans e8, ⟨⟨rfl, rfl, rfl, rfl, rfl, rfl, rfl, rfl, rfl, ⟨_, rfl, b_M_stampMany⟩, rfl, ⟨_, rfl, b_M_taped⟩, ⟨_, rfl, b_M_place0⟩, ⟨_, rfl, b_M_length0⟩, ⟨_, rfl, b_M_fault⟩, ⟨_, rfl, b_M_number0⟩, ⟨_, rfl, b_M_open⟩, ⟨_, rfl, b_M_codeMany⟩, ⟨_, rfl, b_M_waiting⟩, ⟨_, rfl, b_M_saidMany⟩, gT_mk rfl e_M_clauses b_M_clauses, rfl, rfl, rfl, rfl, rfl, rfl, rfl, rfl, rfl, rfl, rfl, rfl, rfl, rfl, rfl, rfl, rfl, ⟨_, rfl, b_M_newMany⟩, ⟨_, rfl, b_M_rounds⟩, ⟨_, rfl, b_M_stampFrom⟩, ⟨_, rfl, b_M_stampTimes⟩, ⟨_, rfl, b_M_lines⟩, ⟨_, rfl, b_M_spot0⟩, topA_ok _, topA_ok _, topA_ok _, topA_ok _, rfl, rfl, rfl, rfl, rfl, gT_mk rfl e_M_isKept b_M_isKept, trivial⟩, ⟨rfl, rfl, of_seg6 rfl (segD_at k1)⟩, ⟨rfl, rfl, b_M_mintAt⟩, ⟨rfl, rfl, b_M_mintOf⟩, ⟨rfl, rfl, b_M_wholeOf⟩, ⟨rfl, rfl, b_M_isWall⟩, ⟨rfl, rfl, b_M_codes⟩, ⟨rfl, rfl, b_M_clauseOf⟩, ⟨rfl, rfl, b_M_codeFrom⟩, ⟨rfl, rfl, b_M_codeHalf⟩, ⟨rfl, rfl, b_M_codeTo⟩, ⟨rfl, rfl, of_rg rg_top⟩, ⟨rfl, rfl, of_rg rg_top⟩, ⟨rfl, rfl, of_rg rg_top⟩, trivial⟩⟩

set_option maxRecDepth 100000 in
theorem n_daysR {l : Launch} {x : Int32} (hx : ¬ (1 ≤ x ∧ x ≤ 100)) : conOkI (MetP l 9 yX12_days cX12_days 2 (some .int) 0 0) [x] (-1) HX_daysR (fun _ => True) := by
  intro τ hΦ hP h hh
  have z := all2_cons hh
  clear hh
  obtain ⟨e0, h, rfl, g0, hh⟩ := z
  rcases e0 with ⟨t0, n0, f0⟩ | ⟨ci, fs⟩
  · exact g0.elim
  obtain ⟨rfl, gf⟩ := g0
  have z := all2_cons gf
  clear gf
  obtain ⟨v0, fs, rfl, q0, gf⟩ := z
  cases (q0 : v0 = .inr (some (.inl 1)))
  have z := all2_cons gf
  clear gf
  obtain ⟨v0, fs, rfl, q0, gf⟩ := z
  cases gT_r (τ := τ) (t := 0) (v := v0) rfl q0
  have z := all2_cons gf
  clear gf
  obtain ⟨v0, fs, rfl, q0, gf⟩ := z
  cases gT_r (τ := τ) (t := 1) (v := v0) rfl q0
  have z := all2_cons gf
  clear gf
  obtain ⟨v0, fs, rfl, q0, gf⟩ := z
  cases (q0 : v0 = .inr (some (.inl 2)))
  have z := all2_cons gf
  clear gf
  obtain ⟨v0, fs, rfl, q0, gf⟩ := z
  cases (q0 : v0 = .inr (some (.inl 3)))
  have z := all2_cons gf
  clear gf
  obtain ⟨v0, fs, rfl, q0, gf⟩ := z
  cases (q0 : v0 = .inr (some (.inl 4)))
  have z := all2_cons gf
  clear gf
  obtain ⟨v0, fs, rfl, q0, gf⟩ := z
  cases (q0 : v0 = .inr (some (.inl 5)))
  have z := all2_cons gf
  clear gf
  obtain ⟨v0, fs, rfl, q0, gf⟩ := z
  cases gT_r (τ := τ) (t := 2) (v := v0) rfl q0
  have z := all2_cons gf
  clear gf
  obtain ⟨v0, fs, rfl, q0, gf⟩ := z
  obtain ⟨M_stampMany, rfl, b_M_stampMany⟩ := q0
  have z := all2_cons gf
  clear gf
  obtain ⟨v0, fs, rfl, q0, gf⟩ := z
  cases gT_r (τ := τ) (t := 3) (v := v0) rfl q0
  have z := all2_cons gf
  clear gf
  obtain ⟨v0, fs, rfl, q0, gf⟩ := z
  obtain ⟨M_taped, rfl, b_M_taped⟩ := q0
  have z := all2_cons gf
  clear gf
  obtain ⟨v0, fs, rfl, q0, gf⟩ := z
  obtain ⟨M_place0, rfl, b_M_place0⟩ := q0
  have z := all2_cons gf
  clear gf
  obtain ⟨v0, fs, rfl, q0, gf⟩ := z
  obtain ⟨M_length0, rfl, b_M_length0⟩ := q0
  have z := all2_cons gf
  clear gf
  obtain ⟨v0, fs, rfl, q0, gf⟩ := z
  obtain ⟨M_fault, rfl, b_M_fault⟩ := q0
  have z := all2_cons gf
  clear gf
  obtain ⟨v0, fs, rfl, q0, gf⟩ := z
  obtain ⟨M_number0, rfl, b_M_number0⟩ := q0
  have z := all2_cons gf
  clear gf
  obtain ⟨v0, fs, rfl, q0, gf⟩ := z
  obtain ⟨M_open, rfl, b_M_open⟩ := q0
  have z := all2_cons gf
  clear gf
  obtain ⟨v0, fs, rfl, q0, gf⟩ := z
  obtain ⟨M_codeMany, rfl, b_M_codeMany⟩ := q0
  have z := all2_cons gf
  clear gf
  obtain ⟨v0, fs, rfl, q0, gf⟩ := z
  obtain ⟨M_waiting, rfl, b_M_waiting⟩ := q0
  have z := all2_cons gf
  clear gf
  obtain ⟨v0, fs, rfl, q0, gf⟩ := z
  obtain ⟨M_saidMany, rfl, b_M_saidMany⟩ := q0
  have z := all2_cons gf
  clear gf
  obtain ⟨v0, fs, rfl, q0, gf⟩ := z
  obtain ⟨M_clauses, rfl, e_M_clauses, b_M_clauses⟩ := gT_x (τ := τ) (t := 200) (v := v0) rfl q0
  have z := all2_cons gf
  clear gf
  obtain ⟨v0, fs, rfl, q0, gf⟩ := z
  cases gT_r (τ := τ) (t := 4) (v := v0) rfl q0
  have z := all2_cons gf
  clear gf
  obtain ⟨v0, fs, rfl, q0, gf⟩ := z
  cases gT_r (τ := τ) (t := 5) (v := v0) rfl q0
  have z := all2_cons gf
  clear gf
  obtain ⟨v0, fs, rfl, q0, gf⟩ := z
  cases gT_r (τ := τ) (t := 6) (v := v0) rfl q0
  have z := all2_cons gf
  clear gf
  obtain ⟨v0, fs, rfl, q0, gf⟩ := z
  cases gT_r (τ := τ) (t := 7) (v := v0) rfl q0
  have z := all2_cons gf
  clear gf
  obtain ⟨v0, fs, rfl, q0, gf⟩ := z
  cases gT_r (τ := τ) (t := 8) (v := v0) rfl q0
  have z := all2_cons gf
  clear gf
  obtain ⟨v0, fs, rfl, q0, gf⟩ := z
  cases gT_r (τ := τ) (t := 9) (v := v0) rfl q0
  have z := all2_cons gf
  clear gf
  obtain ⟨v0, fs, rfl, q0, gf⟩ := z
  cases (q0 : v0 = .inr (some (.inl 6)))
  have z := all2_cons gf
  clear gf
  obtain ⟨v0, fs, rfl, q0, gf⟩ := z
  cases (q0 : v0 = .inr (some (.inl 7)))
  have z := all2_cons gf
  clear gf
  obtain ⟨v0, fs, rfl, q0, gf⟩ := z
  cases (q0 : v0 = .inr (some (.inl 8)))
  have z := all2_cons gf
  clear gf
  obtain ⟨v0, fs, rfl, q0, gf⟩ := z
  cases (q0 : v0 = .inr (some (.inl 9)))
  have z := all2_cons gf
  clear gf
  obtain ⟨v0, fs, rfl, q0, gf⟩ := z
  cases (q0 : v0 = .inr (some (.inl 10)))
  have z := all2_cons gf
  clear gf
  obtain ⟨v0, fs, rfl, q0, gf⟩ := z
  cases (q0 : v0 = .inr (some (.inl 11)))
  have z := all2_cons gf
  clear gf
  obtain ⟨v0, fs, rfl, q0, gf⟩ := z
  cases (q0 : v0 = .inr (some (.inl 12)))
  have z := all2_cons gf
  clear gf
  obtain ⟨v0, fs, rfl, q0, gf⟩ := z
  cases gT_r (τ := τ) (t := 10) (v := v0) rfl q0
  have z := all2_cons gf
  clear gf
  obtain ⟨v0, fs, rfl, q0, gf⟩ := z
  cases gT_r (τ := τ) (t := 11) (v := v0) rfl q0
  have z := all2_cons gf
  clear gf
  obtain ⟨v0, fs, rfl, q0, gf⟩ := z
  cases gT_r (τ := τ) (t := 12) (v := v0) rfl q0
  have z := all2_cons gf
  clear gf
  obtain ⟨v0, fs, rfl, q0, gf⟩ := z
  cases gT_r (τ := τ) (t := 13) (v := v0) rfl q0
  have z := all2_cons gf
  clear gf
  obtain ⟨v0, fs, rfl, q0, gf⟩ := z
  obtain ⟨M_newMany, rfl, b_M_newMany⟩ := q0
  have z := all2_cons gf
  clear gf
  obtain ⟨v0, fs, rfl, q0, gf⟩ := z
  obtain ⟨M_rounds, rfl, b_M_rounds⟩ := q0
  have z := all2_cons gf
  clear gf
  obtain ⟨v0, fs, rfl, q0, gf⟩ := z
  obtain ⟨M_stampFrom, rfl, b_M_stampFrom⟩ := q0
  have z := all2_cons gf
  clear gf
  obtain ⟨v0, fs, rfl, q0, gf⟩ := z
  obtain ⟨M_stampTimes, rfl, b_M_stampTimes⟩ := q0
  have z := all2_cons gf
  clear gf
  obtain ⟨v0, fs, rfl, q0, gf⟩ := z
  obtain ⟨M_lines, rfl, b_M_lines⟩ := q0
  have z := all2_cons gf
  clear gf
  obtain ⟨v0, fs, rfl, q0, gf⟩ := z
  obtain ⟨M_spot0, rfl, b_M_spot0⟩ := q0
  have z := all2_cons gf
  clear gf
  obtain ⟨v0, fs, rfl, q0, gf⟩ := z
  obtain ⟨M_pullAcross, rfl, b_M_pullAcross⟩ := q0
  have z := all2_cons gf
  clear gf
  obtain ⟨v0, fs, rfl, q0, gf⟩ := z
  obtain ⟨M_pullAlong, rfl, b_M_pullAlong⟩ := q0
  have z := all2_cons gf
  clear gf
  obtain ⟨v0, fs, rfl, q0, gf⟩ := z
  obtain ⟨M_stepsNow, rfl, b_M_stepsNow⟩ := q0
  have z := all2_cons gf
  clear gf
  obtain ⟨v0, fs, rfl, q0, gf⟩ := z
  obtain ⟨M_fallenNow, rfl, b_M_fallenNow⟩ := q0
  have z := all2_cons gf
  clear gf
  obtain ⟨v0, fs, rfl, q0, gf⟩ := z
  cases (q0 : v0 = .inr (some (.inl 13)))
  have z := all2_cons gf
  clear gf
  obtain ⟨v0, fs, rfl, q0, gf⟩ := z
  cases gT_r (τ := τ) (t := 14) (v := v0) rfl q0
  have z := all2_cons gf
  clear gf
  obtain ⟨v0, fs, rfl, q0, gf⟩ := z
  cases gT_r (τ := τ) (t := 15) (v := v0) rfl q0
  have z := all2_cons gf
  clear gf
  obtain ⟨v0, fs, rfl, q0, gf⟩ := z
  cases gT_r (τ := τ) (t := 16) (v := v0) rfl q0
  have z := all2_cons gf
  clear gf
  obtain ⟨v0, fs, rfl, q0, gf⟩ := z
  cases gT_r (τ := τ) (t := 17) (v := v0) rfl q0
  have z := all2_cons gf
  clear gf
  obtain ⟨v0, fs, rfl, q0, gf⟩ := z
  obtain ⟨M_isKept, rfl, e_M_isKept, b_M_isKept⟩ := gT_x (τ := τ) (t := 201) (v := v0) rfl q0
  cases fs with
  | cons _ _ => exact gf.elim
  | nil =>
    have z := all2_cons hh
    clear hh
    obtain ⟨e1, h, rfl, g1, hh⟩ := z
    rcases e1 with ⟨t1, n1, M_now⟩ | ⟨ci, fs⟩
    rotate_left
    · exact g1.elim
    obtain ⟨et, en, b_M_now⟩ := g1
    cases (et : t1 = 0)
    cases en
    have z := all2_cons hh
    clear hh
    obtain ⟨e1, h, rfl, g1, hh⟩ := z
    rcases e1 with ⟨t1, n1, M_mintAt⟩ | ⟨ci, fs⟩
    rotate_left
    · exact g1.elim
    obtain ⟨et, en, b_M_mintAt⟩ := g1
    cases (et : t1 = 0)
    cases en
    have z := all2_cons hh
    clear hh
    obtain ⟨e1, h, rfl, g1, hh⟩ := z
    rcases e1 with ⟨t1, n1, M_mintOf⟩ | ⟨ci, fs⟩
    rotate_left
    · exact g1.elim
    obtain ⟨et, en, b_M_mintOf⟩ := g1
    cases (et : t1 = 0)
    cases en
    have z := all2_cons hh
    clear hh
    obtain ⟨e1, h, rfl, g1, hh⟩ := z
    rcases e1 with ⟨t1, n1, M_wholeOf⟩ | ⟨ci, fs⟩
    rotate_left
    · exact g1.elim
    obtain ⟨et, en, b_M_wholeOf⟩ := g1
    cases (et : t1 = 0)
    cases en
    have z := all2_cons hh
    clear hh
    obtain ⟨e1, h, rfl, g1, hh⟩ := z
    rcases e1 with ⟨t1, n1, M_isWall⟩ | ⟨ci, fs⟩
    rotate_left
    · exact g1.elim
    obtain ⟨et, en, b_M_isWall⟩ := g1
    cases (et : t1 = 2)
    cases en
    have z := all2_cons hh
    clear hh
    obtain ⟨e1, h, rfl, g1, hh⟩ := z
    rcases e1 with ⟨t1, n1, M_codes⟩ | ⟨ci, fs⟩
    rotate_left
    · exact g1.elim
    obtain ⟨et, en, b_M_codes⟩ := g1
    cases (et : t1 = 0)
    cases en
    have z := all2_cons hh
    clear hh
    obtain ⟨e1, h, rfl, g1, hh⟩ := z
    rcases e1 with ⟨t1, n1, M_clauseOf⟩ | ⟨ci, fs⟩
    rotate_left
    · exact g1.elim
    obtain ⟨et, en, b_M_clauseOf⟩ := g1
    cases (et : t1 = 0)
    cases en
    have z := all2_cons hh
    clear hh
    obtain ⟨e1, h, rfl, g1, hh⟩ := z
    rcases e1 with ⟨t1, n1, M_codeFrom⟩ | ⟨ci, fs⟩
    rotate_left
    · exact g1.elim
    obtain ⟨et, en, b_M_codeFrom⟩ := g1
    cases (et : t1 = 0)
    cases en
    have z := all2_cons hh
    clear hh
    obtain ⟨e1, h, rfl, g1, hh⟩ := z
    rcases e1 with ⟨t1, n1, M_codeHalf⟩ | ⟨ci, fs⟩
    rotate_left
    · exact g1.elim
    obtain ⟨et, en, b_M_codeHalf⟩ := g1
    cases (et : t1 = 0)
    cases en
    have z := all2_cons hh
    clear hh
    obtain ⟨e1, h, rfl, g1, hh⟩ := z
    rcases e1 with ⟨t1, n1, M_codeTo⟩ | ⟨ci, fs⟩
    rotate_left
    · exact g1.elim
    obtain ⟨et, en, b_M_codeTo⟩ := g1
    cases (et : t1 = 0)
    cases en
    have z := all2_cons hh
    clear hh
    obtain ⟨e1, h, rfl, g1, hh⟩ := z
    rcases e1 with ⟨t1, n1, M_stack⟩ | ⟨ci, fs⟩
    rotate_left
    · exact g1.elim
    obtain ⟨et, en, b_M_stack⟩ := g1
    cases (et : t1 = 0)
    cases en
    have z := all2_cons hh
    clear hh
    obtain ⟨e1, h, rfl, g1, hh⟩ := z
    rcases e1 with ⟨t1, n1, M_facts⟩ | ⟨ci, fs⟩
    rotate_left
    · exact g1.elim
    obtain ⟨et, en, b_M_facts⟩ := g1
    cases (et : t1 = 0)
    cases en
    have z := all2_cons hh
    clear hh
    obtain ⟨e1, h, rfl, g1, hh⟩ := z
    rcases e1 with ⟨t1, n1, M_usesNow⟩ | ⟨ci, fs⟩
    rotate_left
    · exact g1.elim
    obtain ⟨et, en, b_M_usesNow⟩ := g1
    cases (et : t1 = 0)
    cases en
    cases h with
    | cons _ _ => exact hh.elim
    | nil =>
      exact n_X12_days hx

def HX_keepR : List AC := [.inr (11, [.inr (.inr (some (.inl 1))), .inr (.inr (some (.inr 0))), .inr (.inr (some (.inl 2))), .inr (.inr (some (.inr 1))), .inr (.inr (some (.inr 2))), .inr (.inr (some (.inr 3))), .inr (.inr (some (.inr 4))), .inr (.inr (some (.inr 5))), .inl (0, 48), .inr (.inr (some (.inr 6))), .inl (0, 260), .inl (0, 240), .inl (0, 240), .inl (-2147483648, 2147483647), .inl (-2147483648, 2147483647), .inl (-2147483648, 2147483647), .inl (0, 260), .inl (0, 260), .inl (0, 16), .inr (.inr (some (.inr 200))), .inr (.inr (some (.inr 7))), .inr (.inr (some (.inr 8))), .inr (.inr (some (.inr 9))), .inr (.inr (some (.inr 10))), .inr (.inr (some (.inr 11))), .inr (.inr (some (.inr 12))), .inr (.inr (some (.inr 13))), .inr (.inr (some (.inr 14))), .inr (.inr (some (.inr 15))), .inr (.inr (some (.inr 16))), .inr (.inr (some (.inr 17))), .inr (.inr (some (.inr 18))), .inr (.inr (some (.inr 19))), .inr (.inr (some (.inr 20))), .inr (.inr (some (.inr 21))), .inr (.inr (some (.inr 22))), .inr (.inr (some (.inr 23))), .inl (-2147483648, 2147483647), .inl (-2147483648, 2147483647), .inl (-2147483648, 2147483647), .inl (-2147483648, 2147483647), .inl (-2147483648, 2147483647), .inl (-2147483648, 2147483647), .inl (-2147483648, 2147483647), .inl (-2147483648, 2147483647), .inl (-2147483648, 2147483647), .inl (-2147483648, 2147483647), .inr (.inr (some (.inr 24))), .inr (.inr (some (.inr 25))), .inr (.inr (some (.inr 26))), .inr (.inr (some (.inr 27))), .inr (.inr (some (.inr 28))), .inr (.inr (some (.inr 201)))]), .inl (600, 130, 0, 383), .inl (601, 130, 0, 383)]
def HY_keepR : List AC := hc_12b5edb5c6
theorem segD_at9 {τ : Nat → List (Option Nat)} {d : Int32} {f : Nat → Int32} (b : (∀ i, 8 ≤ i → i ≤ 15 → 0 ≤ (f i).toInt ∧ (f i).toInt ≤ 383) ∧ f 128 = d) : segD (decA (upL τ 209 [some (natOf d)] 209) 0) f := ⟨b.1, b.2.trans (natOf_ok d).symm⟩
set_option maxRecDepth 100000 in
theorem x_keepR {l : Launch} : conOkX (MetP l 1 yX12_keep cX12_keep 2 (some .int) 0 0) [] HX_keepR HY_keepR (fun t => Nat.beq t 209) (fun _ => True) (fun τ τ' y => y = decA (τ 208) 0 ∧ decA (τ' 209) 0 = decA (τ 208) 0) := by
  intro τ hΦ hP h hh
  have z := all2_cons hh
  clear hh
  obtain ⟨e0, h, rfl, g0, hh⟩ := z
  rcases e0 with ⟨t0, n0, f0⟩ | ⟨ci, fs⟩
  · exact g0.elim
  obtain ⟨rfl, gf⟩ := g0
  have z := all2_cons gf
  clear gf
  obtain ⟨v0, fs, rfl, q0, gf⟩ := z
  cases (q0 : v0 = .inr (some (.inl 1)))
  have z := all2_cons gf
  clear gf
  obtain ⟨v0, fs, rfl, q0, gf⟩ := z
  cases gT_r (τ := τ) (t := 0) (v := v0) rfl q0
  have z := all2_cons gf
  clear gf
  obtain ⟨v0, fs, rfl, q0, gf⟩ := z
  cases (q0 : v0 = .inr (some (.inl 2)))
  have z := all2_cons gf
  clear gf
  obtain ⟨v0, fs, rfl, q0, gf⟩ := z
  cases gT_r (τ := τ) (t := 1) (v := v0) rfl q0
  have z := all2_cons gf
  clear gf
  obtain ⟨v0, fs, rfl, q0, gf⟩ := z
  cases gT_r (τ := τ) (t := 2) (v := v0) rfl q0
  have z := all2_cons gf
  clear gf
  obtain ⟨v0, fs, rfl, q0, gf⟩ := z
  cases gT_r (τ := τ) (t := 3) (v := v0) rfl q0
  have z := all2_cons gf
  clear gf
  obtain ⟨v0, fs, rfl, q0, gf⟩ := z
  cases gT_r (τ := τ) (t := 4) (v := v0) rfl q0
  have z := all2_cons gf
  clear gf
  obtain ⟨v0, fs, rfl, q0, gf⟩ := z
  cases gT_r (τ := τ) (t := 5) (v := v0) rfl q0
  have z := all2_cons gf
  clear gf
  obtain ⟨v0, fs, rfl, q0, gf⟩ := z
  obtain ⟨M_stampMany, rfl, b_M_stampMany⟩ := q0
  have z := all2_cons gf
  clear gf
  obtain ⟨v0, fs, rfl, q0, gf⟩ := z
  cases gT_r (τ := τ) (t := 6) (v := v0) rfl q0
  have z := all2_cons gf
  clear gf
  obtain ⟨v0, fs, rfl, q0, gf⟩ := z
  obtain ⟨M_taped, rfl, b_M_taped⟩ := q0
  have z := all2_cons gf
  clear gf
  obtain ⟨v0, fs, rfl, q0, gf⟩ := z
  obtain ⟨M_place0, rfl, b_M_place0⟩ := q0
  have z := all2_cons gf
  clear gf
  obtain ⟨v0, fs, rfl, q0, gf⟩ := z
  obtain ⟨M_length0, rfl, b_M_length0⟩ := q0
  have z := all2_cons gf
  clear gf
  obtain ⟨v0, fs, rfl, q0, gf⟩ := z
  obtain ⟨M_fault, rfl, b_M_fault⟩ := q0
  have z := all2_cons gf
  clear gf
  obtain ⟨v0, fs, rfl, q0, gf⟩ := z
  obtain ⟨M_number0, rfl, b_M_number0⟩ := q0
  have z := all2_cons gf
  clear gf
  obtain ⟨v0, fs, rfl, q0, gf⟩ := z
  obtain ⟨M_open, rfl, b_M_open⟩ := q0
  have z := all2_cons gf
  clear gf
  obtain ⟨v0, fs, rfl, q0, gf⟩ := z
  obtain ⟨M_codeMany, rfl, b_M_codeMany⟩ := q0
  have z := all2_cons gf
  clear gf
  obtain ⟨v0, fs, rfl, q0, gf⟩ := z
  obtain ⟨M_waiting, rfl, b_M_waiting⟩ := q0
  have z := all2_cons gf
  clear gf
  obtain ⟨v0, fs, rfl, q0, gf⟩ := z
  obtain ⟨M_saidMany, rfl, b_M_saidMany⟩ := q0
  have z := all2_cons gf
  clear gf
  obtain ⟨v0, fs, rfl, q0, gf⟩ := z
  obtain ⟨M_clauses, rfl, e_M_clauses, b_M_clauses⟩ := gT_x (τ := τ) (t := 200) (v := v0) rfl q0
  have z := all2_cons gf
  clear gf
  obtain ⟨v0, fs, rfl, q0, gf⟩ := z
  cases gT_r (τ := τ) (t := 7) (v := v0) rfl q0
  have z := all2_cons gf
  clear gf
  obtain ⟨v0, fs, rfl, q0, gf⟩ := z
  cases gT_r (τ := τ) (t := 8) (v := v0) rfl q0
  have z := all2_cons gf
  clear gf
  obtain ⟨v0, fs, rfl, q0, gf⟩ := z
  cases gT_r (τ := τ) (t := 9) (v := v0) rfl q0
  have z := all2_cons gf
  clear gf
  obtain ⟨v0, fs, rfl, q0, gf⟩ := z
  cases gT_r (τ := τ) (t := 10) (v := v0) rfl q0
  have z := all2_cons gf
  clear gf
  obtain ⟨v0, fs, rfl, q0, gf⟩ := z
  cases gT_r (τ := τ) (t := 11) (v := v0) rfl q0
  have z := all2_cons gf
  clear gf
  obtain ⟨v0, fs, rfl, q0, gf⟩ := z
  cases gT_r (τ := τ) (t := 12) (v := v0) rfl q0
  have z := all2_cons gf
  clear gf
  obtain ⟨v0, fs, rfl, q0, gf⟩ := z
  cases gT_r (τ := τ) (t := 13) (v := v0) rfl q0
  have z := all2_cons gf
  clear gf
  obtain ⟨v0, fs, rfl, q0, gf⟩ := z
  cases gT_r (τ := τ) (t := 14) (v := v0) rfl q0
  have z := all2_cons gf
  clear gf
  obtain ⟨v0, fs, rfl, q0, gf⟩ := z
  cases gT_r (τ := τ) (t := 15) (v := v0) rfl q0
  have z := all2_cons gf
  clear gf
  obtain ⟨v0, fs, rfl, q0, gf⟩ := z
  cases gT_r (τ := τ) (t := 16) (v := v0) rfl q0
  have z := all2_cons gf
  clear gf
  obtain ⟨v0, fs, rfl, q0, gf⟩ := z
  cases gT_r (τ := τ) (t := 17) (v := v0) rfl q0
  have z := all2_cons gf
  clear gf
  obtain ⟨v0, fs, rfl, q0, gf⟩ := z
  cases gT_r (τ := τ) (t := 18) (v := v0) rfl q0
  have z := all2_cons gf
  clear gf
  obtain ⟨v0, fs, rfl, q0, gf⟩ := z
  cases gT_r (τ := τ) (t := 19) (v := v0) rfl q0
  have z := all2_cons gf
  clear gf
  obtain ⟨v0, fs, rfl, q0, gf⟩ := z
  cases gT_r (τ := τ) (t := 20) (v := v0) rfl q0
  have z := all2_cons gf
  clear gf
  obtain ⟨v0, fs, rfl, q0, gf⟩ := z
  cases gT_r (τ := τ) (t := 21) (v := v0) rfl q0
  have z := all2_cons gf
  clear gf
  obtain ⟨v0, fs, rfl, q0, gf⟩ := z
  cases gT_r (τ := τ) (t := 22) (v := v0) rfl q0
  have z := all2_cons gf
  clear gf
  obtain ⟨v0, fs, rfl, q0, gf⟩ := z
  cases gT_r (τ := τ) (t := 23) (v := v0) rfl q0
  have z := all2_cons gf
  clear gf
  obtain ⟨v0, fs, rfl, q0, gf⟩ := z
  obtain ⟨M_newMany, rfl, b_M_newMany⟩ := q0
  have z := all2_cons gf
  clear gf
  obtain ⟨v0, fs, rfl, q0, gf⟩ := z
  obtain ⟨M_rounds, rfl, b_M_rounds⟩ := q0
  have z := all2_cons gf
  clear gf
  obtain ⟨v0, fs, rfl, q0, gf⟩ := z
  obtain ⟨M_stampFrom, rfl, b_M_stampFrom⟩ := q0
  have z := all2_cons gf
  clear gf
  obtain ⟨v0, fs, rfl, q0, gf⟩ := z
  obtain ⟨M_stampTimes, rfl, b_M_stampTimes⟩ := q0
  have z := all2_cons gf
  clear gf
  obtain ⟨v0, fs, rfl, q0, gf⟩ := z
  obtain ⟨M_lines, rfl, b_M_lines⟩ := q0
  have z := all2_cons gf
  clear gf
  obtain ⟨v0, fs, rfl, q0, gf⟩ := z
  obtain ⟨M_spot0, rfl, b_M_spot0⟩ := q0
  have z := all2_cons gf
  clear gf
  obtain ⟨v0, fs, rfl, q0, gf⟩ := z
  obtain ⟨M_pullAcross, rfl, b_M_pullAcross⟩ := q0
  have z := all2_cons gf
  clear gf
  obtain ⟨v0, fs, rfl, q0, gf⟩ := z
  obtain ⟨M_pullAlong, rfl, b_M_pullAlong⟩ := q0
  have z := all2_cons gf
  clear gf
  obtain ⟨v0, fs, rfl, q0, gf⟩ := z
  obtain ⟨M_stepsNow, rfl, b_M_stepsNow⟩ := q0
  have z := all2_cons gf
  clear gf
  obtain ⟨v0, fs, rfl, q0, gf⟩ := z
  obtain ⟨M_fallenNow, rfl, b_M_fallenNow⟩ := q0
  have z := all2_cons gf
  clear gf
  obtain ⟨v0, fs, rfl, q0, gf⟩ := z
  cases gT_r (τ := τ) (t := 24) (v := v0) rfl q0
  have z := all2_cons gf
  clear gf
  obtain ⟨v0, fs, rfl, q0, gf⟩ := z
  cases gT_r (τ := τ) (t := 25) (v := v0) rfl q0
  have z := all2_cons gf
  clear gf
  obtain ⟨v0, fs, rfl, q0, gf⟩ := z
  cases gT_r (τ := τ) (t := 26) (v := v0) rfl q0
  have z := all2_cons gf
  clear gf
  obtain ⟨v0, fs, rfl, q0, gf⟩ := z
  cases gT_r (τ := τ) (t := 27) (v := v0) rfl q0
  have z := all2_cons gf
  clear gf
  obtain ⟨v0, fs, rfl, q0, gf⟩ := z
  cases gT_r (τ := τ) (t := 28) (v := v0) rfl q0
  have z := all2_cons gf
  clear gf
  obtain ⟨v0, fs, rfl, q0, gf⟩ := z
  obtain ⟨M_isKept, rfl, e_M_isKept, b_M_isKept⟩ := gT_x (τ := τ) (t := 201) (v := v0) rfl q0
  cases fs with
  | cons _ _ => exact gf.elim
  | nil =>
    have z := all2_cons hh
    clear hh
    obtain ⟨e1, h, rfl, g1, hh⟩ := z
    rcases e1 with ⟨t1, n1, M_now⟩ | ⟨ci, fs⟩
    rotate_left
    · exact g1.elim
    obtain ⟨et, en, b_M_now⟩ := g1
    cases (et : t1 = 0)
    cases en
    have z := all2_cons hh
    clear hh
    obtain ⟨e1, h, rfl, g1, hh⟩ := z
    rcases e1 with ⟨t1, n1, M_kept⟩ | ⟨ci, fs⟩
    rotate_left
    · exact g1.elim
    obtain ⟨et, en, b_M_kept⟩ := g1
    cases (et : t1 = 0)
    cases en
    cases h with
    | cons _ _ => exact hh.elim
    | nil =>
      have sg := seg6_of (t := 600) rfl rfl b_M_now
      refine (c_X12_keep b_M_stampMany sg.1).mono (fun r h' hp => ?_)
      obtain ⟨kp, rfl, k1, rfl⟩ := hp
      exact ⟨upL τ 209 [some (natOf (M_now 128))], _, hΦ, fun t ht => upL_ne (ch_ne ht rfl), rfl, ⟨sg.2, (natOf_ok _).trans sg.2⟩, ⟨⟨rfl, rfl, rfl, rfl, rfl, rfl, rfl, rfl, rfl, ⟨_, rfl, b_M_stampMany⟩, rfl, ⟨_, rfl, b_M_taped⟩, ⟨_, rfl, b_M_place0⟩, ⟨_, rfl, b_M_length0⟩, ⟨_, rfl, b_M_fault⟩, ⟨_, rfl, b_M_number0⟩, ⟨_, rfl, b_M_open⟩, ⟨_, rfl, b_M_codeMany⟩, ⟨_, rfl, b_M_waiting⟩, ⟨_, rfl, b_M_saidMany⟩, gT_mk rfl e_M_clauses b_M_clauses, rfl, rfl, rfl, rfl, rfl, rfl, rfl, rfl, rfl, rfl, rfl, rfl, rfl, rfl, rfl, rfl, rfl, ⟨_, rfl, b_M_newMany⟩, ⟨_, rfl, b_M_rounds⟩, ⟨_, rfl, b_M_stampFrom⟩, ⟨_, rfl, b_M_stampTimes⟩, ⟨_, rfl, b_M_lines⟩, ⟨_, rfl, b_M_spot0⟩, ⟨_, rfl, b_M_pullAcross⟩, ⟨_, rfl, b_M_pullAlong⟩, ⟨_, rfl, b_M_stepsNow⟩, ⟨_, rfl, b_M_fallenNow⟩, rfl, rfl, rfl, rfl, rfl, ⟨1, rfl, by decide, by decide⟩, trivial⟩, ⟨rfl, rfl, b_M_now⟩, ⟨rfl, rfl, of_seg6' (t := 601) rfl rfl (segD_at9 k1)⟩, trivial⟩⟩

def HX_undo0R : List AC := [.inr (11, [.inr (.inr (some (.inl 1))), .inr (.inr (some (.inr 0))), .inr (.inr (some (.inl 2))), .inr (.inr (some (.inr 1))), .inr (.inr (some (.inr 2))), .inr (.inr (some (.inr 3))), .inr (.inr (some (.inr 4))), .inr (.inr (some (.inr 5))), .inl (0, 48), .inr (.inr (some (.inr 6))), .inl (0, 260), .inl (0, 240), .inl (0, 240), .inl (-2147483648, 2147483647), .inl (-2147483648, 2147483647), .inl (-2147483648, 2147483647), .inl (0, 260), .inl (0, 260), .inl (0, 16), .inr (.inr (some (.inr 200))), .inr (.inr (some (.inr 7))), .inr (.inr (some (.inr 8))), .inr (.inr (some (.inr 9))), .inr (.inr (some (.inr 10))), .inr (.inr (some (.inr 11))), .inr (.inr (some (.inr 12))), .inr (.inr (some (.inr 13))), .inr (.inr (some (.inr 14))), .inr (.inr (some (.inr 15))), .inr (.inr (some (.inr 16))), .inr (.inr (some (.inr 17))), .inr (.inr (some (.inr 18))), .inr (.inr (some (.inr 19))), .inr (.inr (some (.inr 20))), .inr (.inr (some (.inr 21))), .inr (.inr (some (.inr 22))), .inr (.inr (some (.inr 23))), .inl (-2147483648, 2147483647), .inl (-2147483648, 2147483647), .inl (-2147483648, 2147483647), .inl (-2147483648, 2147483647), .inl (-2147483648, 2147483647), .inl (-2147483648, 2147483647), .inl (-2147483648, 2147483647), .inl (-2147483648, 2147483647), .inl (-2147483648, 2147483647), .inl (-2147483648, 2147483647), .inr (.inr (some (.inr 24))), .inr (.inr (some (.inr 25))), .inr (.inr (some (.inr 26))), .inr (.inr (some (.inr 27))), .inr (.inr (some (.inr 28))), .inl (0, 0)]), .inl (600, 130, 0, 383), .inl (601, 130, 0, 383)]
set_option maxRecDepth 100000 in
theorem x_undo0R {l : Launch} : conOkX (MetP l 1 yX12_undo cX12_undo 1 (some .boolean) 0 0) [] HX_undo0R HX_undo0R (fun t => false) (fun _ => True) (fun τ τ' y => True) := by
  intro τ hΦ hP h hh
  have z := all2_cons hh
  clear hh
  obtain ⟨e0, h, rfl, g0, hh⟩ := z
  rcases e0 with ⟨t0, n0, f0⟩ | ⟨ci, fs⟩
  · exact g0.elim
  obtain ⟨rfl, gf⟩ := g0
  have z := all2_cons gf
  clear gf
  obtain ⟨v0, fs, rfl, q0, gf⟩ := z
  cases (q0 : v0 = .inr (some (.inl 1)))
  have z := all2_cons gf
  clear gf
  obtain ⟨v0, fs, rfl, q0, gf⟩ := z
  cases gT_r (τ := τ) (t := 0) (v := v0) rfl q0
  have z := all2_cons gf
  clear gf
  obtain ⟨v0, fs, rfl, q0, gf⟩ := z
  cases (q0 : v0 = .inr (some (.inl 2)))
  have z := all2_cons gf
  clear gf
  obtain ⟨v0, fs, rfl, q0, gf⟩ := z
  cases gT_r (τ := τ) (t := 1) (v := v0) rfl q0
  have z := all2_cons gf
  clear gf
  obtain ⟨v0, fs, rfl, q0, gf⟩ := z
  cases gT_r (τ := τ) (t := 2) (v := v0) rfl q0
  have z := all2_cons gf
  clear gf
  obtain ⟨v0, fs, rfl, q0, gf⟩ := z
  cases gT_r (τ := τ) (t := 3) (v := v0) rfl q0
  have z := all2_cons gf
  clear gf
  obtain ⟨v0, fs, rfl, q0, gf⟩ := z
  cases gT_r (τ := τ) (t := 4) (v := v0) rfl q0
  have z := all2_cons gf
  clear gf
  obtain ⟨v0, fs, rfl, q0, gf⟩ := z
  cases gT_r (τ := τ) (t := 5) (v := v0) rfl q0
  have z := all2_cons gf
  clear gf
  obtain ⟨v0, fs, rfl, q0, gf⟩ := z
  obtain ⟨M_stampMany, rfl, b_M_stampMany⟩ := q0
  have z := all2_cons gf
  clear gf
  obtain ⟨v0, fs, rfl, q0, gf⟩ := z
  cases gT_r (τ := τ) (t := 6) (v := v0) rfl q0
  have z := all2_cons gf
  clear gf
  obtain ⟨v0, fs, rfl, q0, gf⟩ := z
  obtain ⟨M_taped, rfl, b_M_taped⟩ := q0
  have z := all2_cons gf
  clear gf
  obtain ⟨v0, fs, rfl, q0, gf⟩ := z
  obtain ⟨M_place0, rfl, b_M_place0⟩ := q0
  have z := all2_cons gf
  clear gf
  obtain ⟨v0, fs, rfl, q0, gf⟩ := z
  obtain ⟨M_length0, rfl, b_M_length0⟩ := q0
  have z := all2_cons gf
  clear gf
  obtain ⟨v0, fs, rfl, q0, gf⟩ := z
  obtain ⟨M_fault, rfl, b_M_fault⟩ := q0
  have z := all2_cons gf
  clear gf
  obtain ⟨v0, fs, rfl, q0, gf⟩ := z
  obtain ⟨M_number0, rfl, b_M_number0⟩ := q0
  have z := all2_cons gf
  clear gf
  obtain ⟨v0, fs, rfl, q0, gf⟩ := z
  obtain ⟨M_open, rfl, b_M_open⟩ := q0
  have z := all2_cons gf
  clear gf
  obtain ⟨v0, fs, rfl, q0, gf⟩ := z
  obtain ⟨M_codeMany, rfl, b_M_codeMany⟩ := q0
  have z := all2_cons gf
  clear gf
  obtain ⟨v0, fs, rfl, q0, gf⟩ := z
  obtain ⟨M_waiting, rfl, b_M_waiting⟩ := q0
  have z := all2_cons gf
  clear gf
  obtain ⟨v0, fs, rfl, q0, gf⟩ := z
  obtain ⟨M_saidMany, rfl, b_M_saidMany⟩ := q0
  have z := all2_cons gf
  clear gf
  obtain ⟨v0, fs, rfl, q0, gf⟩ := z
  obtain ⟨M_clauses, rfl, e_M_clauses, b_M_clauses⟩ := gT_x (τ := τ) (t := 200) (v := v0) rfl q0
  have z := all2_cons gf
  clear gf
  obtain ⟨v0, fs, rfl, q0, gf⟩ := z
  cases gT_r (τ := τ) (t := 7) (v := v0) rfl q0
  have z := all2_cons gf
  clear gf
  obtain ⟨v0, fs, rfl, q0, gf⟩ := z
  cases gT_r (τ := τ) (t := 8) (v := v0) rfl q0
  have z := all2_cons gf
  clear gf
  obtain ⟨v0, fs, rfl, q0, gf⟩ := z
  cases gT_r (τ := τ) (t := 9) (v := v0) rfl q0
  have z := all2_cons gf
  clear gf
  obtain ⟨v0, fs, rfl, q0, gf⟩ := z
  cases gT_r (τ := τ) (t := 10) (v := v0) rfl q0
  have z := all2_cons gf
  clear gf
  obtain ⟨v0, fs, rfl, q0, gf⟩ := z
  cases gT_r (τ := τ) (t := 11) (v := v0) rfl q0
  have z := all2_cons gf
  clear gf
  obtain ⟨v0, fs, rfl, q0, gf⟩ := z
  cases gT_r (τ := τ) (t := 12) (v := v0) rfl q0
  have z := all2_cons gf
  clear gf
  obtain ⟨v0, fs, rfl, q0, gf⟩ := z
  cases gT_r (τ := τ) (t := 13) (v := v0) rfl q0
  have z := all2_cons gf
  clear gf
  obtain ⟨v0, fs, rfl, q0, gf⟩ := z
  cases gT_r (τ := τ) (t := 14) (v := v0) rfl q0
  have z := all2_cons gf
  clear gf
  obtain ⟨v0, fs, rfl, q0, gf⟩ := z
  cases gT_r (τ := τ) (t := 15) (v := v0) rfl q0
  have z := all2_cons gf
  clear gf
  obtain ⟨v0, fs, rfl, q0, gf⟩ := z
  cases gT_r (τ := τ) (t := 16) (v := v0) rfl q0
  have z := all2_cons gf
  clear gf
  obtain ⟨v0, fs, rfl, q0, gf⟩ := z
  cases gT_r (τ := τ) (t := 17) (v := v0) rfl q0
  have z := all2_cons gf
  clear gf
  obtain ⟨v0, fs, rfl, q0, gf⟩ := z
  cases gT_r (τ := τ) (t := 18) (v := v0) rfl q0
  have z := all2_cons gf
  clear gf
  obtain ⟨v0, fs, rfl, q0, gf⟩ := z
  cases gT_r (τ := τ) (t := 19) (v := v0) rfl q0
  have z := all2_cons gf
  clear gf
  obtain ⟨v0, fs, rfl, q0, gf⟩ := z
  cases gT_r (τ := τ) (t := 20) (v := v0) rfl q0
  have z := all2_cons gf
  clear gf
  obtain ⟨v0, fs, rfl, q0, gf⟩ := z
  cases gT_r (τ := τ) (t := 21) (v := v0) rfl q0
  have z := all2_cons gf
  clear gf
  obtain ⟨v0, fs, rfl, q0, gf⟩ := z
  cases gT_r (τ := τ) (t := 22) (v := v0) rfl q0
  have z := all2_cons gf
  clear gf
  obtain ⟨v0, fs, rfl, q0, gf⟩ := z
  cases gT_r (τ := τ) (t := 23) (v := v0) rfl q0
  have z := all2_cons gf
  clear gf
  obtain ⟨v0, fs, rfl, q0, gf⟩ := z
  obtain ⟨M_newMany, rfl, b_M_newMany⟩ := q0
  have z := all2_cons gf
  clear gf
  obtain ⟨v0, fs, rfl, q0, gf⟩ := z
  obtain ⟨M_rounds, rfl, b_M_rounds⟩ := q0
  have z := all2_cons gf
  clear gf
  obtain ⟨v0, fs, rfl, q0, gf⟩ := z
  obtain ⟨M_stampFrom, rfl, b_M_stampFrom⟩ := q0
  have z := all2_cons gf
  clear gf
  obtain ⟨v0, fs, rfl, q0, gf⟩ := z
  obtain ⟨M_stampTimes, rfl, b_M_stampTimes⟩ := q0
  have z := all2_cons gf
  clear gf
  obtain ⟨v0, fs, rfl, q0, gf⟩ := z
  obtain ⟨M_lines, rfl, b_M_lines⟩ := q0
  have z := all2_cons gf
  clear gf
  obtain ⟨v0, fs, rfl, q0, gf⟩ := z
  obtain ⟨M_spot0, rfl, b_M_spot0⟩ := q0
  have z := all2_cons gf
  clear gf
  obtain ⟨v0, fs, rfl, q0, gf⟩ := z
  obtain ⟨M_pullAcross, rfl, b_M_pullAcross⟩ := q0
  have z := all2_cons gf
  clear gf
  obtain ⟨v0, fs, rfl, q0, gf⟩ := z
  obtain ⟨M_pullAlong, rfl, b_M_pullAlong⟩ := q0
  have z := all2_cons gf
  clear gf
  obtain ⟨v0, fs, rfl, q0, gf⟩ := z
  obtain ⟨M_stepsNow, rfl, b_M_stepsNow⟩ := q0
  have z := all2_cons gf
  clear gf
  obtain ⟨v0, fs, rfl, q0, gf⟩ := z
  obtain ⟨M_fallenNow, rfl, b_M_fallenNow⟩ := q0
  have z := all2_cons gf
  clear gf
  obtain ⟨v0, fs, rfl, q0, gf⟩ := z
  cases gT_r (τ := τ) (t := 24) (v := v0) rfl q0
  have z := all2_cons gf
  clear gf
  obtain ⟨v0, fs, rfl, q0, gf⟩ := z
  cases gT_r (τ := τ) (t := 25) (v := v0) rfl q0
  have z := all2_cons gf
  clear gf
  obtain ⟨v0, fs, rfl, q0, gf⟩ := z
  cases gT_r (τ := τ) (t := 26) (v := v0) rfl q0
  have z := all2_cons gf
  clear gf
  obtain ⟨v0, fs, rfl, q0, gf⟩ := z
  cases gT_r (τ := τ) (t := 27) (v := v0) rfl q0
  have z := all2_cons gf
  clear gf
  obtain ⟨v0, fs, rfl, q0, gf⟩ := z
  cases gT_r (τ := τ) (t := 28) (v := v0) rfl q0
  have z := all2_cons gf
  clear gf
  obtain ⟨v0, fs, rfl, q0, gf⟩ := z
  obtain ⟨M_isKept, rfl, b_M_isKept⟩ := q0
  cases fs with
  | cons _ _ => exact gf.elim
  | nil =>
    have z := all2_cons hh
    clear hh
    obtain ⟨e1, h, rfl, g1, hh⟩ := z
    rcases e1 with ⟨t1, n1, M_now⟩ | ⟨ci, fs⟩
    rotate_left
    · exact g1.elim
    obtain ⟨et, en, b_M_now⟩ := g1
    cases (et : t1 = 0)
    cases en
    have z := all2_cons hh
    clear hh
    obtain ⟨e1, h, rfl, g1, hh⟩ := z
    rcases e1 with ⟨t1, n1, M_kept⟩ | ⟨ci, fs⟩
    rotate_left
    · exact g1.elim
    obtain ⟨et, en, b_M_kept⟩ := g1
    cases (et : t1 = 0)
    cases en
    cases h with
    | cons _ _ => exact hh.elim
    | nil =>
      obtain rfl : M_isKept = 0 := i32eq.mpr (show M_isKept.toInt = 0 by omega)
      refine n_X12_undo.mono (fun r h' hp => ?_)
      obtain ⟨rfl, rfl⟩ := hp
      exact ⟨τ, 0, hΦ, fun _ _ => rfl, rfl, trivial, ⟨⟨rfl, rfl, rfl, rfl, rfl, rfl, rfl, rfl, rfl, ⟨_, rfl, b_M_stampMany⟩, rfl, ⟨_, rfl, b_M_taped⟩, ⟨_, rfl, b_M_place0⟩, ⟨_, rfl, b_M_length0⟩, ⟨_, rfl, b_M_fault⟩, ⟨_, rfl, b_M_number0⟩, ⟨_, rfl, b_M_open⟩, ⟨_, rfl, b_M_codeMany⟩, ⟨_, rfl, b_M_waiting⟩, ⟨_, rfl, b_M_saidMany⟩, gT_mk rfl e_M_clauses b_M_clauses, rfl, rfl, rfl, rfl, rfl, rfl, rfl, rfl, rfl, rfl, rfl, rfl, rfl, rfl, rfl, rfl, rfl, ⟨_, rfl, b_M_newMany⟩, ⟨_, rfl, b_M_rounds⟩, ⟨_, rfl, b_M_stampFrom⟩, ⟨_, rfl, b_M_stampTimes⟩, ⟨_, rfl, b_M_lines⟩, ⟨_, rfl, b_M_spot0⟩, ⟨_, rfl, b_M_pullAcross⟩, ⟨_, rfl, b_M_pullAlong⟩, ⟨_, rfl, b_M_stepsNow⟩, ⟨_, rfl, b_M_fallenNow⟩, rfl, rfl, rfl, rfl, rfl, ⟨_, rfl, b_M_isKept⟩, trivial⟩, ⟨rfl, rfl, b_M_now⟩, ⟨rfl, rfl, b_M_kept⟩, trivial⟩⟩

def HX_undo1R : List AC := hc_12b5edb5c6
set_option maxRecDepth 100000 in
theorem x_undo1R {l : Launch} : conOkX (MetP l 1 yX12_undo cX12_undo 1 (some .boolean) 0 0) [] HX_undo1R HX_undo1R (fun t => Nat.beq t 208) (fun _ => True) (fun τ τ' y => decA (τ' 208) 0 = decA (τ 209) 0) := by
  intro τ hΦ hP h hh
  have z := all2_cons hh
  clear hh
  obtain ⟨e0, h, rfl, g0, hh⟩ := z
  rcases e0 with ⟨t0, n0, f0⟩ | ⟨ci, fs⟩
  · exact g0.elim
  obtain ⟨rfl, gf⟩ := g0
  have z := all2_cons gf
  clear gf
  obtain ⟨v0, fs, rfl, q0, gf⟩ := z
  cases (q0 : v0 = .inr (some (.inl 1)))
  have z := all2_cons gf
  clear gf
  obtain ⟨v0, fs, rfl, q0, gf⟩ := z
  cases gT_r (τ := τ) (t := 0) (v := v0) rfl q0
  have z := all2_cons gf
  clear gf
  obtain ⟨v0, fs, rfl, q0, gf⟩ := z
  cases (q0 : v0 = .inr (some (.inl 2)))
  have z := all2_cons gf
  clear gf
  obtain ⟨v0, fs, rfl, q0, gf⟩ := z
  cases gT_r (τ := τ) (t := 1) (v := v0) rfl q0
  have z := all2_cons gf
  clear gf
  obtain ⟨v0, fs, rfl, q0, gf⟩ := z
  cases gT_r (τ := τ) (t := 2) (v := v0) rfl q0
  have z := all2_cons gf
  clear gf
  obtain ⟨v0, fs, rfl, q0, gf⟩ := z
  cases gT_r (τ := τ) (t := 3) (v := v0) rfl q0
  have z := all2_cons gf
  clear gf
  obtain ⟨v0, fs, rfl, q0, gf⟩ := z
  cases gT_r (τ := τ) (t := 4) (v := v0) rfl q0
  have z := all2_cons gf
  clear gf
  obtain ⟨v0, fs, rfl, q0, gf⟩ := z
  cases gT_r (τ := τ) (t := 5) (v := v0) rfl q0
  have z := all2_cons gf
  clear gf
  obtain ⟨v0, fs, rfl, q0, gf⟩ := z
  obtain ⟨M_stampMany, rfl, b_M_stampMany⟩ := q0
  have z := all2_cons gf
  clear gf
  obtain ⟨v0, fs, rfl, q0, gf⟩ := z
  cases gT_r (τ := τ) (t := 6) (v := v0) rfl q0
  have z := all2_cons gf
  clear gf
  obtain ⟨v0, fs, rfl, q0, gf⟩ := z
  obtain ⟨M_taped, rfl, b_M_taped⟩ := q0
  have z := all2_cons gf
  clear gf
  obtain ⟨v0, fs, rfl, q0, gf⟩ := z
  obtain ⟨M_place0, rfl, b_M_place0⟩ := q0
  have z := all2_cons gf
  clear gf
  obtain ⟨v0, fs, rfl, q0, gf⟩ := z
  obtain ⟨M_length0, rfl, b_M_length0⟩ := q0
  have z := all2_cons gf
  clear gf
  obtain ⟨v0, fs, rfl, q0, gf⟩ := z
  obtain ⟨M_fault, rfl, b_M_fault⟩ := q0
  have z := all2_cons gf
  clear gf
  obtain ⟨v0, fs, rfl, q0, gf⟩ := z
  obtain ⟨M_number0, rfl, b_M_number0⟩ := q0
  have z := all2_cons gf
  clear gf
  obtain ⟨v0, fs, rfl, q0, gf⟩ := z
  obtain ⟨M_open, rfl, b_M_open⟩ := q0
  have z := all2_cons gf
  clear gf
  obtain ⟨v0, fs, rfl, q0, gf⟩ := z
  obtain ⟨M_codeMany, rfl, b_M_codeMany⟩ := q0
  have z := all2_cons gf
  clear gf
  obtain ⟨v0, fs, rfl, q0, gf⟩ := z
  obtain ⟨M_waiting, rfl, b_M_waiting⟩ := q0
  have z := all2_cons gf
  clear gf
  obtain ⟨v0, fs, rfl, q0, gf⟩ := z
  obtain ⟨M_saidMany, rfl, b_M_saidMany⟩ := q0
  have z := all2_cons gf
  clear gf
  obtain ⟨v0, fs, rfl, q0, gf⟩ := z
  obtain ⟨M_clauses, rfl, e_M_clauses, b_M_clauses⟩ := gT_x (τ := τ) (t := 200) (v := v0) rfl q0
  have z := all2_cons gf
  clear gf
  obtain ⟨v0, fs, rfl, q0, gf⟩ := z
  cases gT_r (τ := τ) (t := 7) (v := v0) rfl q0
  have z := all2_cons gf
  clear gf
  obtain ⟨v0, fs, rfl, q0, gf⟩ := z
  cases gT_r (τ := τ) (t := 8) (v := v0) rfl q0
  have z := all2_cons gf
  clear gf
  obtain ⟨v0, fs, rfl, q0, gf⟩ := z
  cases gT_r (τ := τ) (t := 9) (v := v0) rfl q0
  have z := all2_cons gf
  clear gf
  obtain ⟨v0, fs, rfl, q0, gf⟩ := z
  cases gT_r (τ := τ) (t := 10) (v := v0) rfl q0
  have z := all2_cons gf
  clear gf
  obtain ⟨v0, fs, rfl, q0, gf⟩ := z
  cases gT_r (τ := τ) (t := 11) (v := v0) rfl q0
  have z := all2_cons gf
  clear gf
  obtain ⟨v0, fs, rfl, q0, gf⟩ := z
  cases gT_r (τ := τ) (t := 12) (v := v0) rfl q0
  have z := all2_cons gf
  clear gf
  obtain ⟨v0, fs, rfl, q0, gf⟩ := z
  cases gT_r (τ := τ) (t := 13) (v := v0) rfl q0
  have z := all2_cons gf
  clear gf
  obtain ⟨v0, fs, rfl, q0, gf⟩ := z
  cases gT_r (τ := τ) (t := 14) (v := v0) rfl q0
  have z := all2_cons gf
  clear gf
  obtain ⟨v0, fs, rfl, q0, gf⟩ := z
  cases gT_r (τ := τ) (t := 15) (v := v0) rfl q0
  have z := all2_cons gf
  clear gf
  obtain ⟨v0, fs, rfl, q0, gf⟩ := z
  cases gT_r (τ := τ) (t := 16) (v := v0) rfl q0
  have z := all2_cons gf
  clear gf
  obtain ⟨v0, fs, rfl, q0, gf⟩ := z
  cases gT_r (τ := τ) (t := 17) (v := v0) rfl q0
  have z := all2_cons gf
  clear gf
  obtain ⟨v0, fs, rfl, q0, gf⟩ := z
  cases gT_r (τ := τ) (t := 18) (v := v0) rfl q0
  have z := all2_cons gf
  clear gf
  obtain ⟨v0, fs, rfl, q0, gf⟩ := z
  cases gT_r (τ := τ) (t := 19) (v := v0) rfl q0
  have z := all2_cons gf
  clear gf
  obtain ⟨v0, fs, rfl, q0, gf⟩ := z
  cases gT_r (τ := τ) (t := 20) (v := v0) rfl q0
  have z := all2_cons gf
  clear gf
  obtain ⟨v0, fs, rfl, q0, gf⟩ := z
  cases gT_r (τ := τ) (t := 21) (v := v0) rfl q0
  have z := all2_cons gf
  clear gf
  obtain ⟨v0, fs, rfl, q0, gf⟩ := z
  cases gT_r (τ := τ) (t := 22) (v := v0) rfl q0
  have z := all2_cons gf
  clear gf
  obtain ⟨v0, fs, rfl, q0, gf⟩ := z
  cases gT_r (τ := τ) (t := 23) (v := v0) rfl q0
  have z := all2_cons gf
  clear gf
  obtain ⟨v0, fs, rfl, q0, gf⟩ := z
  obtain ⟨M_newMany, rfl, b_M_newMany⟩ := q0
  have z := all2_cons gf
  clear gf
  obtain ⟨v0, fs, rfl, q0, gf⟩ := z
  obtain ⟨M_rounds, rfl, b_M_rounds⟩ := q0
  have z := all2_cons gf
  clear gf
  obtain ⟨v0, fs, rfl, q0, gf⟩ := z
  obtain ⟨M_stampFrom, rfl, b_M_stampFrom⟩ := q0
  have z := all2_cons gf
  clear gf
  obtain ⟨v0, fs, rfl, q0, gf⟩ := z
  obtain ⟨M_stampTimes, rfl, b_M_stampTimes⟩ := q0
  have z := all2_cons gf
  clear gf
  obtain ⟨v0, fs, rfl, q0, gf⟩ := z
  obtain ⟨M_lines, rfl, b_M_lines⟩ := q0
  have z := all2_cons gf
  clear gf
  obtain ⟨v0, fs, rfl, q0, gf⟩ := z
  obtain ⟨M_spot0, rfl, b_M_spot0⟩ := q0
  have z := all2_cons gf
  clear gf
  obtain ⟨v0, fs, rfl, q0, gf⟩ := z
  obtain ⟨M_pullAcross, rfl, b_M_pullAcross⟩ := q0
  have z := all2_cons gf
  clear gf
  obtain ⟨v0, fs, rfl, q0, gf⟩ := z
  obtain ⟨M_pullAlong, rfl, b_M_pullAlong⟩ := q0
  have z := all2_cons gf
  clear gf
  obtain ⟨v0, fs, rfl, q0, gf⟩ := z
  obtain ⟨M_stepsNow, rfl, b_M_stepsNow⟩ := q0
  have z := all2_cons gf
  clear gf
  obtain ⟨v0, fs, rfl, q0, gf⟩ := z
  obtain ⟨M_fallenNow, rfl, b_M_fallenNow⟩ := q0
  have z := all2_cons gf
  clear gf
  obtain ⟨v0, fs, rfl, q0, gf⟩ := z
  cases gT_r (τ := τ) (t := 24) (v := v0) rfl q0
  have z := all2_cons gf
  clear gf
  obtain ⟨v0, fs, rfl, q0, gf⟩ := z
  cases gT_r (τ := τ) (t := 25) (v := v0) rfl q0
  have z := all2_cons gf
  clear gf
  obtain ⟨v0, fs, rfl, q0, gf⟩ := z
  cases gT_r (τ := τ) (t := 26) (v := v0) rfl q0
  have z := all2_cons gf
  clear gf
  obtain ⟨v0, fs, rfl, q0, gf⟩ := z
  cases gT_r (τ := τ) (t := 27) (v := v0) rfl q0
  have z := all2_cons gf
  clear gf
  obtain ⟨v0, fs, rfl, q0, gf⟩ := z
  cases gT_r (τ := τ) (t := 28) (v := v0) rfl q0
  have z := all2_cons gf
  clear gf
  obtain ⟨v0, fs, rfl, q0, gf⟩ := z
  obtain ⟨M_isKept, rfl, b_M_isKept⟩ := q0
  cases fs with
  | cons _ _ => exact gf.elim
  | nil =>
    have z := all2_cons hh
    clear hh
    obtain ⟨e1, h, rfl, g1, hh⟩ := z
    rcases e1 with ⟨t1, n1, M_now⟩ | ⟨ci, fs⟩
    rotate_left
    · exact g1.elim
    obtain ⟨et, en, b_M_now⟩ := g1
    cases (et : t1 = 0)
    cases en
    have z := all2_cons hh
    clear hh
    obtain ⟨e1, h, rfl, g1, hh⟩ := z
    rcases e1 with ⟨t1, n1, M_kept⟩ | ⟨ci, fs⟩
    rotate_left
    · exact g1.elim
    obtain ⟨et, en, b_M_kept⟩ := g1
    cases (et : t1 = 0)
    cases en
    cases h with
    | cons _ _ => exact hh.elim
    | nil =>
      obtain rfl : M_isKept = 1 := i32eq.mpr (show M_isKept.toInt = 1 by omega)
      have sg := seg6_of (t := 601) rfl rfl b_M_kept
      refine c_X12_undo.mono (fun r h' hp => ?_)
      obtain ⟨nw, rfl, k1, rfl⟩ := hp
      exact ⟨upL τ 208 [some (natOf (M_kept 128))], 1, hΦ, fun t ht => upL_ne (ch_ne ht rfl), rfl, (natOf_ok _).trans sg.2, ⟨⟨rfl, rfl, rfl, rfl, rfl, rfl, rfl, rfl, rfl, ⟨_, rfl, b_M_stampMany⟩, rfl, ⟨_, rfl, b_M_taped⟩, ⟨_, rfl, b_M_place0⟩, ⟨_, rfl, b_M_length0⟩, ⟨_, rfl, b_M_fault⟩, ⟨_, rfl, b_M_number0⟩, ⟨_, rfl, b_M_open⟩, ⟨_, rfl, b_M_codeMany⟩, ⟨_, rfl, b_M_waiting⟩, ⟨_, rfl, b_M_saidMany⟩, gT_mk rfl e_M_clauses b_M_clauses, rfl, rfl, rfl, rfl, rfl, rfl, rfl, rfl, rfl, rfl, rfl, rfl, rfl, rfl, rfl, rfl, rfl, ⟨_, rfl, b_M_newMany⟩, ⟨_, rfl, b_M_rounds⟩, ⟨_, rfl, b_M_stampFrom⟩, ⟨_, rfl, b_M_stampTimes⟩, ⟨_, rfl, b_M_lines⟩, ⟨_, rfl, b_M_spot0⟩, ⟨_, rfl, b_M_pullAcross⟩, ⟨_, rfl, b_M_pullAlong⟩, ⟨_, rfl, b_M_stepsNow⟩, ⟨_, rfl, b_M_fallenNow⟩, rfl, rfl, rfl, rfl, rfl, ⟨_, rfl, b_M_isKept⟩, trivial⟩, ⟨rfl, rfl, of_seg6 rfl (segD_at ⟨fun i i1 i2 => by rw [k1 i (by omega)]; exact sg.1 i i1 i2, k1 128 (by omega)⟩)⟩, ⟨rfl, rfl, b_M_kept⟩, trivial⟩⟩

