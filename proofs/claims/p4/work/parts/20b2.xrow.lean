
/-! ===== rows with exact answers ===== -/
def upL (τ : Nat → List (Option Nat)) (k : Nat) (l : List (Option Nat)) (t : Nat) : List (Option Nat) := match Nat.beq t k with
  | true => l
  | false => τ t
theorem upL_ne {τ : Nat → List (Option Nat)} {k t : Nat} {l : List (Option Nat)} (h : t ≠ k) : upL τ k l t = τ t := by
  unfold upL
  cases e : Nat.beq t k
  · rfl
  · exact absurd (Nat.eq_of_beq_eq_true e) h
theorem upL_at {τ : Nat → List (Option Nat)} {k : Nat} {l : List (Option Nat)} : upL τ k l k = l := by
  unfold upL
  rw [Nat.beq_refl]
theorem ch_ne {t k : Nat} (h : (Nat.ble 100 t && Nat.beq t k) = false) (hk : Nat.ble 100 k = true) : t ≠ k := fun z => by
  subst z
  rw [hk, Nat.beq_refl] at h
  cases h
theorem sq_4 : ∀ n, n ≤ 4 → n * n ≤ 16 := by decide
theorem sq_6 : ∀ n, n ≤ 6 → n * n ≤ 36 := by decide
theorem of_7 {τ : Nat → List (Option Nat)} {n : Nat} {f : Nat → Int32} (b : f 0 = 0) : ∀ i, i < n → (sel 700 i = true → (0 : Int) ≤ (f i).toInt ∧ (f i).toInt ≤ 0) ∧ (700 = 5 → f i = decA (τ (0 : Int).toNat) i) ∧ (Nat.ble 10 700 = true → g3 τ 700 i (f i)) := fun i _ => ⟨fun z => by
  have q : i + 700 = 700 := Nat.eq_of_beq_eq_true z
  rw [show i = 0 by omega, b]
  exact ⟨by decide, by decide⟩, fun z => absurd z (by decide), fun _ => g3_m rfl rfl⟩

def HX_feedC (c : Nat) : List AC := [.inr (10, [.inr (.inr (some (.inl 1))), .inr (.inr (some (.inr 0))), .inr (.inr (some (.inr 1))), .inr (.inr (some (.inr 2))), .inr (.inr (some (.inr 3))), .inr (.inr (some (.inr 4))), .inr (.inr (some (.inr 5))), .inr (.inr (some (.inr 6))), .inr (.inr (some (.inr 7))), .inr (.inr (some (.inr 8))), .inr (.inr (some (.inr 9))), .inr (.inr (some (.inr 10))), .inr (.inr (some (.inr 11))), .inr (.inr (some (.inr 12))), .inr (.inr (some (.inr 201)))]), .inr (9, [.inr (.inr (some (.inl 2))), .inl ((((c : Nat) : Int) : Int), (((c : Nat) : Int) : Int))]), .inl (1000, 260, 0, 255)]
def HY_feedC (c : Nat) : List AC := [.inr (10, [.inr (.inr (some (.inl 1))), .inr (.inr (some (.inr 0))), .inr (.inr (some (.inr 1))), .inr (.inr (some (.inr 2))), .inr (.inr (some (.inr 3))), .inr (.inr (some (.inr 4))), .inr (.inr (some (.inr 5))), .inr (.inr (some (.inr 6))), .inr (.inr (some (.inr 7))), .inr (.inr (some (.inr 8))), .inr (.inr (some (.inr 9))), .inr (.inr (some (.inr 10))), .inr (.inr (some (.inr 11))), .inr (.inr (some (.inr 12))), .inr (.inr (some (.inr 201)))]), .inr (9, [.inr (.inr (some (.inl 2))), .inl ((((c + 20 : Nat) : Int) : Int), (((c + 20 : Nat) : Int) : Int))]), .inl (1000, 260, 0, 255)]
def HN_feedC : List AC := [.inr (10, [.inr (.inr (some (.inl 1))), .inr (.inr (some (.inr 0))), .inr (.inr (some (.inr 1))), .inr (.inr (some (.inr 2))), .inr (.inr (some (.inr 3))), .inr (.inr (some (.inr 4))), .inr (.inr (some (.inr 5))), .inr (.inr (some (.inr 6))), .inr (.inr (some (.inr 7))), .inr (.inr (some (.inr 8))), .inr (.inr (some (.inr 9))), .inr (.inr (some (.inr 10))), .inr (.inr (some (.inr 11))), .inr (.inr (some (.inr 12))), .inr (.inr (some (.inr 201)))]), .inr (9, [.inr (.inr (some (.inl 2))), .inl (260, 260)]), .inl (1000, 260, 0, 255)]
set_option maxRecDepth 100000 in
theorem x_feedC {l : Launch} {c : Nat} {a b d e f : Int32} (hc : c + 20 ≤ 260) : conOkX (MetP l 2 yX11_feed cX11_feed 6 (some .int) 0 0) [a, b, d, e, f] (HX_feedC c) (HY_feedC c) (fun t => Nat.beq t 250) (fun _ => True) (fun τ τ' y => y = nI (c + 20) ∧ ∃ F : Nat → Int32, (∀ i, i < 260 → F i = decA (τ 250) i) ∧ ∀ i, i < 260 → decA (τ' 250) i = fdC F c a b d e f i) := by
  intro τ hΦ hP h hh
  have z := all2_cons hh
  clear hh
  obtain ⟨e0, h, rfl, g0, hh⟩ := z
  rcases e0 with ⟨t0, n0, f0⟩ | ⟨ci, fs⟩
  · exact g0.elim
  obtain ⟨rfl, gf⟩ := g0
  have z := all2_cons gf
  clear gf
  obtain ⟨v0, fs, rfl, q0, gf⟩ := z
  cases (q0 : v0 = .inr (some (.inl 1)))
  have z := all2_cons gf
  clear gf
  obtain ⟨v0, fs, rfl, q0, gf⟩ := z
  cases gT_r (τ := τ) (t := 0) (v := v0) rfl q0
  have z := all2_cons gf
  clear gf
  obtain ⟨v0, fs, rfl, q0, gf⟩ := z
  cases gT_r (τ := τ) (t := 1) (v := v0) rfl q0
  have z := all2_cons gf
  clear gf
  obtain ⟨v0, fs, rfl, q0, gf⟩ := z
  cases gT_r (τ := τ) (t := 2) (v := v0) rfl q0
  have z := all2_cons gf
  clear gf
  obtain ⟨v0, fs, rfl, q0, gf⟩ := z
  cases gT_r (τ := τ) (t := 3) (v := v0) rfl q0
  have z := all2_cons gf
  clear gf
  obtain ⟨v0, fs, rfl, q0, gf⟩ := z
  cases gT_r (τ := τ) (t := 4) (v := v0) rfl q0
  have z := all2_cons gf
  clear gf
  obtain ⟨v0, fs, rfl, q0, gf⟩ := z
  cases gT_r (τ := τ) (t := 5) (v := v0) rfl q0
  have z := all2_cons gf
  clear gf
  obtain ⟨v0, fs, rfl, q0, gf⟩ := z
  cases gT_r (τ := τ) (t := 6) (v := v0) rfl q0
  have z := all2_cons gf
  clear gf
  obtain ⟨v0, fs, rfl, q0, gf⟩ := z
  cases gT_r (τ := τ) (t := 7) (v := v0) rfl q0
  have z := all2_cons gf
  clear gf
  obtain ⟨v0, fs, rfl, q0, gf⟩ := z
  cases gT_r (τ := τ) (t := 8) (v := v0) rfl q0
  have z := all2_cons gf
  clear gf
  obtain ⟨v0, fs, rfl, q0, gf⟩ := z
  cases gT_r (τ := τ) (t := 9) (v := v0) rfl q0
  have z := all2_cons gf
  clear gf
  obtain ⟨v0, fs, rfl, q0, gf⟩ := z
  cases gT_r (τ := τ) (t := 10) (v := v0) rfl q0
  have z := all2_cons gf
  clear gf
  obtain ⟨v0, fs, rfl, q0, gf⟩ := z
  cases gT_r (τ := τ) (t := 11) (v := v0) rfl q0
  have z := all2_cons gf
  clear gf
  obtain ⟨v0, fs, rfl, q0, gf⟩ := z
  cases gT_r (τ := τ) (t := 12) (v := v0) rfl q0
  have z := all2_cons gf
  clear gf
  obtain ⟨v0, fs, rfl, q0, gf⟩ := z
  obtain ⟨HS_wasKept, rfl, e_HS_wasKept, b_HS_wasKept⟩ := gT_x (τ := τ) (t := 201) (v := v0) rfl q0
  cases fs with
  | cons _ _ => exact gf.elim
  | nil =>
    have z := all2_cons hh
    clear hh
    obtain ⟨e0, h, rfl, g0, hh⟩ := z
    rcases e0 with ⟨t0, n0, f0⟩ | ⟨ci, fs⟩
    · exact g0.elim
    obtain ⟨rfl, gf⟩ := g0
    have z := all2_cons gf
    clear gf
    obtain ⟨v0, fs, rfl, q0, gf⟩ := z
    cases (q0 : v0 = .inr (some (.inl 2)))
    have z := all2_cons gf
    clear gf
    obtain ⟨v0, fs, rfl, q0, gf⟩ := z
    obtain ⟨Tape_size, rfl, b_Tape_size⟩ := q0
    cases fs with
    | cons _ _ => exact gf.elim
    | nil =>
      have z := all2_cons hh
      clear hh
      obtain ⟨e1, h, rfl, g1, hh⟩ := z
      rcases e1 with ⟨t1, n1, Tape_bytes⟩ | ⟨ci, fs⟩
      rotate_left
      · exact g1.elim
      obtain ⟨et, en, b_Tape_bytes⟩ := g1
      cases (et : t1 = 0)
      cases en
      cases h with
      | cons _ _ => exact hh.elim
      | nil =>
        obtain ⟨s, hs, rfl⟩ := rng_n (x := Tape_size) (k := 260) (by omega) (by omega)
        have es := sz_n (c := s) (by omega)
        obtain rfl : s = c := by omega
        obtain ⟨rF, eF⟩ := rg_x rfl b_Tape_bytes
        refine (c_X11_feed hc).mono (fun r h' hp => ?_)
        obtain ⟨rfl, rfl⟩ := hp
        exact ⟨upL τ 250 (encA (fdC Tape_bytes s a b d e f) 260), nI (s + 20), hΦ, fun t ht => upL_ne (ch_ne ht rfl), rfl, ⟨rfl, Tape_bytes, eF, fun i hi => by rw [upL_at]; exact encA_ok hi⟩, ⟨⟨rfl, rfl, rfl, rfl, rfl, rfl, rfl, rfl, rfl, rfl, rfl, rfl, rfl, rfl, rfl, gT_mk rfl e_HS_wasKept b_HS_wasKept, trivial⟩, ⟨rfl, rfl, ⟨_, rfl, sz_n (by omega)⟩, trivial⟩, ⟨rfl, rfl, of_x rfl (fdC_rg rF) (fun i hi => (encA_ok hi).symm)⟩, trivial⟩⟩

set_option maxRecDepth 100000 in
theorem n_feedC {l : Launch} {a b d e f : Int32} : conOkX (MetP l 2 yX11_feed cX11_feed 6 (some .int) 0 0) [a, b, d, e, f] HN_feedC HN_feedC (fun _ => false) (fun _ => True) (fun _ _ y => y = -1) := by
  intro τ hΦ hP h hh
  have z := all2_cons hh
  clear hh
  obtain ⟨e0, h, rfl, g0, hh⟩ := z
  rcases e0 with ⟨t0, n0, f0⟩ | ⟨ci, fs⟩
  · exact g0.elim
  obtain ⟨rfl, gf⟩ := g0
  have z := all2_cons gf
  clear gf
  obtain ⟨v0, fs, rfl, q0, gf⟩ := z
  cases (q0 : v0 = .inr (some (.inl 1)))
  have z := all2_cons gf
  clear gf
  obtain ⟨v0, fs, rfl, q0, gf⟩ := z
  cases gT_r (τ := τ) (t := 0) (v := v0) rfl q0
  have z := all2_cons gf
  clear gf
  obtain ⟨v0, fs, rfl, q0, gf⟩ := z
  cases gT_r (τ := τ) (t := 1) (v := v0) rfl q0
  have z := all2_cons gf
  clear gf
  obtain ⟨v0, fs, rfl, q0, gf⟩ := z
  cases gT_r (τ := τ) (t := 2) (v := v0) rfl q0
  have z := all2_cons gf
  clear gf
  obtain ⟨v0, fs, rfl, q0, gf⟩ := z
  cases gT_r (τ := τ) (t := 3) (v := v0) rfl q0
  have z := all2_cons gf
  clear gf
  obtain ⟨v0, fs, rfl, q0, gf⟩ := z
  cases gT_r (τ := τ) (t := 4) (v := v0) rfl q0
  have z := all2_cons gf
  clear gf
  obtain ⟨v0, fs, rfl, q0, gf⟩ := z
  cases gT_r (τ := τ) (t := 5) (v := v0) rfl q0
  have z := all2_cons gf
  clear gf
  obtain ⟨v0, fs, rfl, q0, gf⟩ := z
  cases gT_r (τ := τ) (t := 6) (v := v0) rfl q0
  have z := all2_cons gf
  clear gf
  obtain ⟨v0, fs, rfl, q0, gf⟩ := z
  cases gT_r (τ := τ) (t := 7) (v := v0) rfl q0
  have z := all2_cons gf
  clear gf
  obtain ⟨v0, fs, rfl, q0, gf⟩ := z
  cases gT_r (τ := τ) (t := 8) (v := v0) rfl q0
  have z := all2_cons gf
  clear gf
  obtain ⟨v0, fs, rfl, q0, gf⟩ := z
  cases gT_r (τ := τ) (t := 9) (v := v0) rfl q0
  have z := all2_cons gf
  clear gf
  obtain ⟨v0, fs, rfl, q0, gf⟩ := z
  cases gT_r (τ := τ) (t := 10) (v := v0) rfl q0
  have z := all2_cons gf
  clear gf
  obtain ⟨v0, fs, rfl, q0, gf⟩ := z
  cases gT_r (τ := τ) (t := 11) (v := v0) rfl q0
  have z := all2_cons gf
  clear gf
  obtain ⟨v0, fs, rfl, q0, gf⟩ := z
  cases gT_r (τ := τ) (t := 12) (v := v0) rfl q0
  have z := all2_cons gf
  clear gf
  obtain ⟨v0, fs, rfl, q0, gf⟩ := z
  obtain ⟨HS_wasKept, rfl, e_HS_wasKept, b_HS_wasKept⟩ := gT_x (τ := τ) (t := 201) (v := v0) rfl q0
  cases fs with
  | cons _ _ => exact gf.elim
  | nil =>
    have z := all2_cons hh
    clear hh
    obtain ⟨e0, h, rfl, g0, hh⟩ := z
    rcases e0 with ⟨t0, n0, f0⟩ | ⟨ci, fs⟩
    · exact g0.elim
    obtain ⟨rfl, gf⟩ := g0
    have z := all2_cons gf
    clear gf
    obtain ⟨v0, fs, rfl, q0, gf⟩ := z
    cases (q0 : v0 = .inr (some (.inl 2)))
    have z := all2_cons gf
    clear gf
    obtain ⟨v0, fs, rfl, q0, gf⟩ := z
    obtain ⟨Tape_size, rfl, b_Tape_size⟩ := q0
    cases fs with
    | cons _ _ => exact gf.elim
    | nil =>
      have z := all2_cons hh
      clear hh
      obtain ⟨e1, h, rfl, g1, hh⟩ := z
      rcases e1 with ⟨t1, n1, Tape_bytes⟩ | ⟨ci, fs⟩
      rotate_left
      · exact g1.elim
      obtain ⟨et, en, b_Tape_bytes⟩ := g1
      cases (et : t1 = 0)
      cases en
      cases h with
      | cons _ _ => exact hh.elim
      | nil =>
        obtain rfl : Tape_size = nI 260 := i32eq.mpr (show Tape_size.toInt = 260 by omega)
        refine n_X11_feed.mono (fun r h' hp => ?_)
        obtain ⟨rfl, rfl⟩ := hp
        exact ⟨τ, -1, hΦ, fun _ _ => rfl, rfl, rfl, ⟨⟨rfl, rfl, rfl, rfl, rfl, rfl, rfl, rfl, rfl, rfl, rfl, rfl, rfl, rfl, rfl, gT_mk rfl e_HS_wasKept b_HS_wasKept, trivial⟩, ⟨rfl, rfl, ⟨_, rfl, b_Tape_size⟩, trivial⟩, ⟨rfl, rfl, b_Tape_bytes⟩, trivial⟩⟩

def HX_feedR (c : Nat) : List AC := [.inr (11, [.inr (.inr (some (.inr 0))), .inr (.inr (some (.inr 1))), .inr (.inr (some (.inr 2))), .inr (.inr (some (.inr 3))), .inr (.inr (some (.inr 4))), .inr (.inr (some (.inr 5))), .inr (.inr (some (.inr 6))), .inr (.inr (some (.inr 7))), .inl (0, 48), .inr (.inr (some (.inl 1))), .inl ((((c : Nat) : Int) : Int), (((c : Nat) : Int) : Int)), .inl (0, 240), .inl (0, 240), .inl (-2147483648, 2147483647), .inl (-2147483648, 2147483647), .inl (-2147483648, 2147483647), .inl (0, 260), .inl (0, 260), .inl (0, 16), .inr (.inr (some (.inr 200))), .inr (.inr (some (.inr 8))), .inr (.inr (some (.inr 9))), .inr (.inr (some (.inr 10))), .inr (.inr (some (.inr 11))), .inr (.inr (some (.inr 12))), .inr (.inr (some (.inr 13))), .inr (.inr (some (.inr 14))), .inr (.inr (some (.inr 15))), .inr (.inr (some (.inr 16))), .inr (.inr (some (.inr 17))), .inr (.inr (some (.inr 18))), .inr (.inr (some (.inr 19))), .inr (.inr (some (.inr 20))), .inr (.inr (some (.inr 21))), .inr (.inr (some (.inr 22))), .inr (.inr (some (.inr 23))), .inr (.inr (some (.inr 24))), .inl (-2147483648, 2147483647), .inl (-2147483648, 2147483647), .inl (-2147483648, 2147483647), .inl (-2147483648, 2147483647), .inl (-2147483648, 2147483647), .inl (-2147483648, 2147483647), .inl (-2147483648, 2147483647), .inl (-2147483648, 2147483647), .inl (-2147483648, 2147483647), .inl (-2147483648, 2147483647), .inr (.inr (some (.inr 25))), .inr (.inr (some (.inr 26))), .inr (.inr (some (.inr 27))), .inr (.inr (some (.inr 28))), .inr (.inr (some (.inr 29))), .inr (.inr (some (.inr 201)))]), .inl (1005, 260, -128, 127)]
def HY_feedR (c : Nat) : List AC := [.inr (11, [.inr (.inr (some (.inr 0))), .inr (.inr (some (.inr 1))), .inr (.inr (some (.inr 2))), .inr (.inr (some (.inr 3))), .inr (.inr (some (.inr 4))), .inr (.inr (some (.inr 5))), .inr (.inr (some (.inr 6))), .inr (.inr (some (.inr 7))), .inl (0, 48), .inr (.inr (some (.inl 1))), .inl ((((c + 20 : Nat) : Int) : Int), (((c + 20 : Nat) : Int) : Int)), .inl (0, 240), .inl (0, 240), .inl (-2147483648, 2147483647), .inl (-2147483648, 2147483647), .inl (-2147483648, 2147483647), .inl (0, 260), .inl (0, 260), .inl (0, 16), .inr (.inr (some (.inr 200))), .inr (.inr (some (.inr 8))), .inr (.inr (some (.inr 9))), .inr (.inr (some (.inr 10))), .inr (.inr (some (.inr 11))), .inr (.inr (some (.inr 12))), .inr (.inr (some (.inr 13))), .inr (.inr (some (.inr 14))), .inr (.inr (some (.inr 15))), .inr (.inr (some (.inr 16))), .inr (.inr (some (.inr 17))), .inr (.inr (some (.inr 18))), .inr (.inr (some (.inr 19))), .inr (.inr (some (.inr 20))), .inr (.inr (some (.inr 21))), .inr (.inr (some (.inr 22))), .inr (.inr (some (.inr 23))), .inr (.inr (some (.inr 24))), .inl (-2147483648, 2147483647), .inl (-2147483648, 2147483647), .inl (-2147483648, 2147483647), .inl (-2147483648, 2147483647), .inl (-2147483648, 2147483647), .inl (-2147483648, 2147483647), .inl (-2147483648, 2147483647), .inl (-2147483648, 2147483647), .inl (-2147483648, 2147483647), .inl (-2147483648, 2147483647), .inr (.inr (some (.inr 25))), .inr (.inr (some (.inr 26))), .inr (.inr (some (.inr 27))), .inr (.inr (some (.inr 28))), .inr (.inr (some (.inr 29))), .inr (.inr (some (.inr 201)))]), .inl (1005, 260, -128, 127)]
def HN_feedR : List AC := [.inr (11, [.inr (.inr (some (.inr 0))), .inr (.inr (some (.inr 1))), .inr (.inr (some (.inr 2))), .inr (.inr (some (.inr 3))), .inr (.inr (some (.inr 4))), .inr (.inr (some (.inr 5))), .inr (.inr (some (.inr 6))), .inr (.inr (some (.inr 7))), .inl (0, 48), .inr (.inr (some (.inl 1))), .inl (260, 260), .inl (0, 240), .inl (0, 240), .inl (-2147483648, 2147483647), .inl (-2147483648, 2147483647), .inl (-2147483648, 2147483647), .inl (0, 260), .inl (0, 260), .inl (0, 16), .inr (.inr (some (.inr 200))), .inr (.inr (some (.inr 8))), .inr (.inr (some (.inr 9))), .inr (.inr (some (.inr 10))), .inr (.inr (some (.inr 11))), .inr (.inr (some (.inr 12))), .inr (.inr (some (.inr 13))), .inr (.inr (some (.inr 14))), .inr (.inr (some (.inr 15))), .inr (.inr (some (.inr 16))), .inr (.inr (some (.inr 17))), .inr (.inr (some (.inr 18))), .inr (.inr (some (.inr 19))), .inr (.inr (some (.inr 20))), .inr (.inr (some (.inr 21))), .inr (.inr (some (.inr 22))), .inr (.inr (some (.inr 23))), .inr (.inr (some (.inr 24))), .inl (-2147483648, 2147483647), .inl (-2147483648, 2147483647), .inl (-2147483648, 2147483647), .inl (-2147483648, 2147483647), .inl (-2147483648, 2147483647), .inl (-2147483648, 2147483647), .inl (-2147483648, 2147483647), .inl (-2147483648, 2147483647), .inl (-2147483648, 2147483647), .inl (-2147483648, 2147483647), .inr (.inr (some (.inr 25))), .inr (.inr (some (.inr 26))), .inr (.inr (some (.inr 27))), .inr (.inr (some (.inr 28))), .inr (.inr (some (.inr 29))), .inr (.inr (some (.inr 201)))]), .inl (1005, 260, -128, 127)]
set_option maxRecDepth 100000 in
theorem x_feedR {l : Launch} {c : Nat} {a b d e f : Int32} (hc : c + 20 ≤ 260) : conOkX (MetP l 1 yX12_feed cX12_feed 6 (some .int) 0 0) [a, b, d, e, f] (HX_feedR c) (HY_feedR c) (fun t => Nat.beq t 251) (fun _ => True) (fun τ τ' y => y = nI (c + 20) ∧ ∃ F : Nat → Int32, (∀ i, i < 260 → F i = decA (τ 251) i) ∧ ∀ i, i < 260 → decA (τ' 251) i = fdR F c a b d e f i) := by
  intro τ hΦ hP h hh
  have z := all2_cons hh
  clear hh
  obtain ⟨e0, h, rfl, g0, hh⟩ := z
  rcases e0 with ⟨t0, n0, f0⟩ | ⟨ci, fs⟩
  · exact g0.elim
  obtain ⟨rfl, gf⟩ := g0
  have z := all2_cons gf
  clear gf
  obtain ⟨v0, fs, rfl, q0, gf⟩ := z
  cases gT_r (τ := τ) (t := 0) (v := v0) rfl q0
  have z := all2_cons gf
  clear gf
  obtain ⟨v0, fs, rfl, q0, gf⟩ := z
  cases gT_r (τ := τ) (t := 1) (v := v0) rfl q0
  have z := all2_cons gf
  clear gf
  obtain ⟨v0, fs, rfl, q0, gf⟩ := z
  cases gT_r (τ := τ) (t := 2) (v := v0) rfl q0
  have z := all2_cons gf
  clear gf
  obtain ⟨v0, fs, rfl, q0, gf⟩ := z
  cases gT_r (τ := τ) (t := 3) (v := v0) rfl q0
  have z := all2_cons gf
  clear gf
  obtain ⟨v0, fs, rfl, q0, gf⟩ := z
  cases gT_r (τ := τ) (t := 4) (v := v0) rfl q0
  have z := all2_cons gf
  clear gf
  obtain ⟨v0, fs, rfl, q0, gf⟩ := z
  cases gT_r (τ := τ) (t := 5) (v := v0) rfl q0
  have z := all2_cons gf
  clear gf
  obtain ⟨v0, fs, rfl, q0, gf⟩ := z
  cases gT_r (τ := τ) (t := 6) (v := v0) rfl q0
  have z := all2_cons gf
  clear gf
  obtain ⟨v0, fs, rfl, q0, gf⟩ := z
  cases gT_r (τ := τ) (t := 7) (v := v0) rfl q0
  have z := all2_cons gf
  clear gf
  obtain ⟨v0, fs, rfl, q0, gf⟩ := z
  obtain ⟨M_stampMany, rfl, b_M_stampMany⟩ := q0
  have z := all2_cons gf
  clear gf
  obtain ⟨v0, fs, rfl, q0, gf⟩ := z
  cases (q0 : v0 = .inr (some (.inl 1)))
  have z := all2_cons gf
  clear gf
  obtain ⟨v0, fs, rfl, q0, gf⟩ := z
  obtain ⟨M_taped, rfl, b_M_taped⟩ := q0
  have z := all2_cons gf
  clear gf
  obtain ⟨v0, fs, rfl, q0, gf⟩ := z
  obtain ⟨M_place0, rfl, b_M_place0⟩ := q0
  have z := all2_cons gf
  clear gf
  obtain ⟨v0, fs, rfl, q0, gf⟩ := z
  obtain ⟨M_length0, rfl, b_M_length0⟩ := q0
  have z := all2_cons gf
  clear gf
  obtain ⟨v0, fs, rfl, q0, gf⟩ := z
  obtain ⟨M_fault, rfl, b_M_fault⟩ := q0
  have z := all2_cons gf
  clear gf
  obtain ⟨v0, fs, rfl, q0, gf⟩ := z
  obtain ⟨M_number0, rfl, b_M_number0⟩ := q0
  have z := all2_cons gf
  clear gf
  obtain ⟨v0, fs, rfl, q0, gf⟩ := z
  obtain ⟨M_open, rfl, b_M_open⟩ := q0
  have z := all2_cons gf
  clear gf
  obtain ⟨v0, fs, rfl, q0, gf⟩ := z
  obtain ⟨M_codeMany, rfl, b_M_codeMany⟩ := q0
  have z := all2_cons gf
  clear gf
  obtain ⟨v0, fs, rfl, q0, gf⟩ := z
  obtain ⟨M_waiting, rfl, b_M_waiting⟩ := q0
  have z := all2_cons gf
  clear gf
  obtain ⟨v0, fs, rfl, q0, gf⟩ := z
  obtain ⟨M_saidMany, rfl, b_M_saidMany⟩ := q0
  have z := all2_cons gf
  clear gf
  obtain ⟨v0, fs, rfl, q0, gf⟩ := z
  obtain ⟨M_clauses, rfl, e_M_clauses, b_M_clauses⟩ := gT_x (τ := τ) (t := 200) (v := v0) rfl q0
  have z := all2_cons gf
  clear gf
  obtain ⟨v0, fs, rfl, q0, gf⟩ := z
  cases gT_r (τ := τ) (t := 8) (v := v0) rfl q0
  have z := all2_cons gf
  clear gf
  obtain ⟨v0, fs, rfl, q0, gf⟩ := z
  cases gT_r (τ := τ) (t := 9) (v := v0) rfl q0
  have z := all2_cons gf
  clear gf
  obtain ⟨v0, fs, rfl, q0, gf⟩ := z
  cases gT_r (τ := τ) (t := 10) (v := v0) rfl q0
  have z := all2_cons gf
  clear gf
  obtain ⟨v0, fs, rfl, q0, gf⟩ := z
  cases gT_r (τ := τ) (t := 11) (v := v0) rfl q0
  have z := all2_cons gf
  clear gf
  obtain ⟨v0, fs, rfl, q0, gf⟩ := z
  cases gT_r (τ := τ) (t := 12) (v := v0) rfl q0
  have z := all2_cons gf
  clear gf
  obtain ⟨v0, fs, rfl, q0, gf⟩ := z
  cases gT_r (τ := τ) (t := 13) (v := v0) rfl q0
  have z := all2_cons gf
  clear gf
  obtain ⟨v0, fs, rfl, q0, gf⟩ := z
  cases gT_r (τ := τ) (t := 14) (v := v0) rfl q0
  have z := all2_cons gf
  clear gf
  obtain ⟨v0, fs, rfl, q0, gf⟩ := z
  cases gT_r (τ := τ) (t := 15) (v := v0) rfl q0
  have z := all2_cons gf
  clear gf
  obtain ⟨v0, fs, rfl, q0, gf⟩ := z
  cases gT_r (τ := τ) (t := 16) (v := v0) rfl q0
  have z := all2_cons gf
  clear gf
  obtain ⟨v0, fs, rfl, q0, gf⟩ := z
  cases gT_r (τ := τ) (t := 17) (v := v0) rfl q0
  have z := all2_cons gf
  clear gf
  obtain ⟨v0, fs, rfl, q0, gf⟩ := z
  cases gT_r (τ := τ) (t := 18) (v := v0) rfl q0
  have z := all2_cons gf
  clear gf
  obtain ⟨v0, fs, rfl, q0, gf⟩ := z
  cases gT_r (τ := τ) (t := 19) (v := v0) rfl q0
  have z := all2_cons gf
  clear gf
  obtain ⟨v0, fs, rfl, q0, gf⟩ := z
  cases gT_r (τ := τ) (t := 20) (v := v0) rfl q0
  have z := all2_cons gf
  clear gf
  obtain ⟨v0, fs, rfl, q0, gf⟩ := z
  cases gT_r (τ := τ) (t := 21) (v := v0) rfl q0
  have z := all2_cons gf
  clear gf
  obtain ⟨v0, fs, rfl, q0, gf⟩ := z
  cases gT_r (τ := τ) (t := 22) (v := v0) rfl q0
  have z := all2_cons gf
  clear gf
  obtain ⟨v0, fs, rfl, q0, gf⟩ := z
  cases gT_r (τ := τ) (t := 23) (v := v0) rfl q0
  have z := all2_cons gf
  clear gf
  obtain ⟨v0, fs, rfl, q0, gf⟩ := z
  cases gT_r (τ := τ) (t := 24) (v := v0) rfl q0
  have z := all2_cons gf
  clear gf
  obtain ⟨v0, fs, rfl, q0, gf⟩ := z
  obtain ⟨M_newMany, rfl, b_M_newMany⟩ := q0
  have z := all2_cons gf
  clear gf
  obtain ⟨v0, fs, rfl, q0, gf⟩ := z
  obtain ⟨M_rounds, rfl, b_M_rounds⟩ := q0
  have z := all2_cons gf
  clear gf
  obtain ⟨v0, fs, rfl, q0, gf⟩ := z
  obtain ⟨M_stampFrom, rfl, b_M_stampFrom⟩ := q0
  have z := all2_cons gf
  clear gf
  obtain ⟨v0, fs, rfl, q0, gf⟩ := z
  obtain ⟨M_stampTimes, rfl, b_M_stampTimes⟩ := q0
  have z := all2_cons gf
  clear gf
  obtain ⟨v0, fs, rfl, q0, gf⟩ := z
  obtain ⟨M_lines, rfl, b_M_lines⟩ := q0
  have z := all2_cons gf
  clear gf
  obtain ⟨v0, fs, rfl, q0, gf⟩ := z
  obtain ⟨M_spot0, rfl, b_M_spot0⟩ := q0
  have z := all2_cons gf
  clear gf
  obtain ⟨v0, fs, rfl, q0, gf⟩ := z
  obtain ⟨M_pullAcross, rfl, b_M_pullAcross⟩ := q0
  have z := all2_cons gf
  clear gf
  obtain ⟨v0, fs, rfl, q0, gf⟩ := z
  obtain ⟨M_pullAlong, rfl, b_M_pullAlong⟩ := q0
  have z := all2_cons gf
  clear gf
  obtain ⟨v0, fs, rfl, q0, gf⟩ := z
  obtain ⟨M_stepsNow, rfl, b_M_stepsNow⟩ := q0
  have z := all2_cons gf
  clear gf
  obtain ⟨v0, fs, rfl, q0, gf⟩ := z
  obtain ⟨M_fallenNow, rfl, b_M_fallenNow⟩ := q0
  have z := all2_cons gf
  clear gf
  obtain ⟨v0, fs, rfl, q0, gf⟩ := z
  cases gT_r (τ := τ) (t := 25) (v := v0) rfl q0
  have z := all2_cons gf
  clear gf
  obtain ⟨v0, fs, rfl, q0, gf⟩ := z
  cases gT_r (τ := τ) (t := 26) (v := v0) rfl q0
  have z := all2_cons gf
  clear gf
  obtain ⟨v0, fs, rfl, q0, gf⟩ := z
  cases gT_r (τ := τ) (t := 27) (v := v0) rfl q0
  have z := all2_cons gf
  clear gf
  obtain ⟨v0, fs, rfl, q0, gf⟩ := z
  cases gT_r (τ := τ) (t := 28) (v := v0) rfl q0
  have z := all2_cons gf
  clear gf
  obtain ⟨v0, fs, rfl, q0, gf⟩ := z
  cases gT_r (τ := τ) (t := 29) (v := v0) rfl q0
  have z := all2_cons gf
  clear gf
  obtain ⟨v0, fs, rfl, q0, gf⟩ := z
  obtain ⟨M_isKept, rfl, e_M_isKept, b_M_isKept⟩ := gT_x (τ := τ) (t := 201) (v := v0) rfl q0
  cases fs with
  | cons _ _ => exact gf.elim
  | nil =>
    have z := all2_cons hh
    clear hh
    obtain ⟨e1, h, rfl, g1, hh⟩ := z
    rcases e1 with ⟨t1, n1, M_tape⟩ | ⟨ci, fs⟩
    rotate_left
    · exact g1.elim
    obtain ⟨et, en, b_M_tape⟩ := g1
    cases (et : t1 = 1)
    cases en
    cases h with
    | cons _ _ => exact hh.elim
    | nil =>
      obtain ⟨s, hs, rfl⟩ := rng_n (x := M_taped) (k := 260) (by omega) (by omega)
      have es := sz_n (c := s) (by omega)
      obtain rfl : s = c := by omega
      obtain ⟨rF, eF⟩ := rg_x rfl b_M_tape
      refine (c_X12_feed hc).mono (fun r h' hp => ?_)
      obtain ⟨rfl, rfl⟩ := hp
      exact ⟨upL τ 251 (encA (fdR M_tape s a b d e f) 260), nI (s + 20), hΦ, fun t ht => upL_ne (ch_ne ht rfl), rfl, ⟨rfl, M_tape, eF, fun i hi => by rw [upL_at]; exact encA_ok hi⟩, ⟨⟨rfl, rfl, rfl, rfl, rfl, rfl, rfl, rfl, rfl, ⟨_, rfl, b_M_stampMany⟩, rfl, ⟨_, rfl, sz_n (by omega)⟩, ⟨_, rfl, b_M_place0⟩, ⟨_, rfl, b_M_length0⟩, ⟨_, rfl, b_M_fault⟩, ⟨_, rfl, b_M_number0⟩, ⟨_, rfl, b_M_open⟩, ⟨_, rfl, b_M_codeMany⟩, ⟨_, rfl, b_M_waiting⟩, ⟨_, rfl, b_M_saidMany⟩, gT_mk rfl e_M_clauses b_M_clauses, rfl, rfl, rfl, rfl, rfl, rfl, rfl, rfl, rfl, rfl, rfl, rfl, rfl, rfl, rfl, rfl, rfl, ⟨_, rfl, b_M_newMany⟩, ⟨_, rfl, b_M_rounds⟩, ⟨_, rfl, b_M_stampFrom⟩, ⟨_, rfl, b_M_stampTimes⟩, ⟨_, rfl, b_M_lines⟩, ⟨_, rfl, b_M_spot0⟩, ⟨_, rfl, b_M_pullAcross⟩, ⟨_, rfl, b_M_pullAlong⟩, ⟨_, rfl, b_M_stepsNow⟩, ⟨_, rfl, b_M_fallenNow⟩, rfl, rfl, rfl, rfl, rfl, gT_mk rfl e_M_isKept b_M_isKept, trivial⟩, ⟨rfl, rfl, of_x rfl (fdR_rg rF) (fun i hi => (encA_ok hi).symm)⟩, trivial⟩⟩

set_option maxRecDepth 100000 in
theorem n_feedR {l : Launch} {a b d e f : Int32} : conOkX (MetP l 1 yX12_feed cX12_feed 6 (some .int) 0 0) [a, b, d, e, f] HN_feedR HN_feedR (fun _ => false) (fun _ => True) (fun _ _ y => y = -1) := by
  intro τ hΦ hP h hh
  have z := all2_cons hh
  clear hh
  obtain ⟨e0, h, rfl, g0, hh⟩ := z
  rcases e0 with ⟨t0, n0, f0⟩ | ⟨ci, fs⟩
  · exact g0.elim
  obtain ⟨rfl, gf⟩ := g0
  have z := all2_cons gf
  clear gf
  obtain ⟨v0, fs, rfl, q0, gf⟩ := z
  cases gT_r (τ := τ) (t := 0) (v := v0) rfl q0
  have z := all2_cons gf
  clear gf
  obtain ⟨v0, fs, rfl, q0, gf⟩ := z
  cases gT_r (τ := τ) (t := 1) (v := v0) rfl q0
  have z := all2_cons gf
  clear gf
  obtain ⟨v0, fs, rfl, q0, gf⟩ := z
  cases gT_r (τ := τ) (t := 2) (v := v0) rfl q0
  have z := all2_cons gf
  clear gf
  obtain ⟨v0, fs, rfl, q0, gf⟩ := z
  cases gT_r (τ := τ) (t := 3) (v := v0) rfl q0
  have z := all2_cons gf
  clear gf
  obtain ⟨v0, fs, rfl, q0, gf⟩ := z
  cases gT_r (τ := τ) (t := 4) (v := v0) rfl q0
  have z := all2_cons gf
  clear gf
  obtain ⟨v0, fs, rfl, q0, gf⟩ := z
  cases gT_r (τ := τ) (t := 5) (v := v0) rfl q0
  have z := all2_cons gf
  clear gf
  obtain ⟨v0, fs, rfl, q0, gf⟩ := z
  cases gT_r (τ := τ) (t := 6) (v := v0) rfl q0
  have z := all2_cons gf
  clear gf
  obtain ⟨v0, fs, rfl, q0, gf⟩ := z
  cases gT_r (τ := τ) (t := 7) (v := v0) rfl q0
  have z := all2_cons gf
  clear gf
  obtain ⟨v0, fs, rfl, q0, gf⟩ := z
  obtain ⟨M_stampMany, rfl, b_M_stampMany⟩ := q0
  have z := all2_cons gf
  clear gf
  obtain ⟨v0, fs, rfl, q0, gf⟩ := z
  cases (q0 : v0 = .inr (some (.inl 1)))
  have z := all2_cons gf
  clear gf
  obtain ⟨v0, fs, rfl, q0, gf⟩ := z
  obtain ⟨M_taped, rfl, b_M_taped⟩ := q0
  have z := all2_cons gf
  clear gf
  obtain ⟨v0, fs, rfl, q0, gf⟩ := z
  obtain ⟨M_place0, rfl, b_M_place0⟩ := q0
  have z := all2_cons gf
  clear gf
  obtain ⟨v0, fs, rfl, q0, gf⟩ := z
  obtain ⟨M_length0, rfl, b_M_length0⟩ := q0
  have z := all2_cons gf
  clear gf
  obtain ⟨v0, fs, rfl, q0, gf⟩ := z
  obtain ⟨M_fault, rfl, b_M_fault⟩ := q0
  have z := all2_cons gf
  clear gf
  obtain ⟨v0, fs, rfl, q0, gf⟩ := z
  obtain ⟨M_number0, rfl, b_M_number0⟩ := q0
  have z := all2_cons gf
  clear gf
  obtain ⟨v0, fs, rfl, q0, gf⟩ := z
  obtain ⟨M_open, rfl, b_M_open⟩ := q0
  have z := all2_cons gf
  clear gf
  obtain ⟨v0, fs, rfl, q0, gf⟩ := z
  obtain ⟨M_codeMany, rfl, b_M_codeMany⟩ := q0
  have z := all2_cons gf
  clear gf
  obtain ⟨v0, fs, rfl, q0, gf⟩ := z
  obtain ⟨M_waiting, rfl, b_M_waiting⟩ := q0
  have z := all2_cons gf
  clear gf
  obtain ⟨v0, fs, rfl, q0, gf⟩ := z
  obtain ⟨M_saidMany, rfl, b_M_saidMany⟩ := q0
  have z := all2_cons gf
  clear gf
  obtain ⟨v0, fs, rfl, q0, gf⟩ := z
  obtain ⟨M_clauses, rfl, e_M_clauses, b_M_clauses⟩ := gT_x (τ := τ) (t := 200) (v := v0) rfl q0
  have z := all2_cons gf
  clear gf
  obtain ⟨v0, fs, rfl, q0, gf⟩ := z
  cases gT_r (τ := τ) (t := 8) (v := v0) rfl q0
  have z := all2_cons gf
  clear gf
  obtain ⟨v0, fs, rfl, q0, gf⟩ := z
  cases gT_r (τ := τ) (t := 9) (v := v0) rfl q0
  have z := all2_cons gf
  clear gf
  obtain ⟨v0, fs, rfl, q0, gf⟩ := z
  cases gT_r (τ := τ) (t := 10) (v := v0) rfl q0
  have z := all2_cons gf
  clear gf
  obtain ⟨v0, fs, rfl, q0, gf⟩ := z
  cases gT_r (τ := τ) (t := 11) (v := v0) rfl q0
  have z := all2_cons gf
  clear gf
  obtain ⟨v0, fs, rfl, q0, gf⟩ := z
  cases gT_r (τ := τ) (t := 12) (v := v0) rfl q0
  have z := all2_cons gf
  clear gf
  obtain ⟨v0, fs, rfl, q0, gf⟩ := z
  cases gT_r (τ := τ) (t := 13) (v := v0) rfl q0
  have z := all2_cons gf
  clear gf
  obtain ⟨v0, fs, rfl, q0, gf⟩ := z
  cases gT_r (τ := τ) (t := 14) (v := v0) rfl q0
  have z := all2_cons gf
  clear gf
  obtain ⟨v0, fs, rfl, q0, gf⟩ := z
  cases gT_r (τ := τ) (t := 15) (v := v0) rfl q0
  have z := all2_cons gf
  clear gf
  obtain ⟨v0, fs, rfl, q0, gf⟩ := z
  cases gT_r (τ := τ) (t := 16) (v := v0) rfl q0
  have z := all2_cons gf
  clear gf
  obtain ⟨v0, fs, rfl, q0, gf⟩ := z
  cases gT_r (τ := τ) (t := 17) (v := v0) rfl q0
  have z := all2_cons gf
  clear gf
  obtain ⟨v0, fs, rfl, q0, gf⟩ := z
  cases gT_r (τ := τ) (t := 18) (v := v0) rfl q0
  have z := all2_cons gf
  clear gf
  obtain ⟨v0, fs, rfl, q0, gf⟩ := z
  cases gT_r (τ := τ) (t := 19) (v := v0) rfl q0
  have z := all2_cons gf
  clear gf
  obtain ⟨v0, fs, rfl, q0, gf⟩ := z
  cases gT_r (τ := τ) (t := 20) (v := v0) rfl q0
  have z := all2_cons gf
  clear gf
  obtain ⟨v0, fs, rfl, q0, gf⟩ := z
  cases gT_r (τ := τ) (t := 21) (v := v0) rfl q0
  have z := all2_cons gf
  clear gf
  obtain ⟨v0, fs, rfl, q0, gf⟩ := z
  cases gT_r (τ := τ) (t := 22) (v := v0) rfl q0
  have z := all2_cons gf
  clear gf
  obtain ⟨v0, fs, rfl, q0, gf⟩ := z
  cases gT_r (τ := τ) (t := 23) (v := v0) rfl q0
  have z := all2_cons gf
  clear gf
  obtain ⟨v0, fs, rfl, q0, gf⟩ := z
  cases gT_r (τ := τ) (t := 24) (v := v0) rfl q0
  have z := all2_cons gf
  clear gf
  obtain ⟨v0, fs, rfl, q0, gf⟩ := z
  obtain ⟨M_newMany, rfl, b_M_newMany⟩ := q0
  have z := all2_cons gf
  clear gf
  obtain ⟨v0, fs, rfl, q0, gf⟩ := z
  obtain ⟨M_rounds, rfl, b_M_rounds⟩ := q0
  have z := all2_cons gf
  clear gf
  obtain ⟨v0, fs, rfl, q0, gf⟩ := z
  obtain ⟨M_stampFrom, rfl, b_M_stampFrom⟩ := q0
  have z := all2_cons gf
  clear gf
  obtain ⟨v0, fs, rfl, q0, gf⟩ := z
  obtain ⟨M_stampTimes, rfl, b_M_stampTimes⟩ := q0
  have z := all2_cons gf
  clear gf
  obtain ⟨v0, fs, rfl, q0, gf⟩ := z
  obtain ⟨M_lines, rfl, b_M_lines⟩ := q0
  have z := all2_cons gf
  clear gf
  obtain ⟨v0, fs, rfl, q0, gf⟩ := z
  obtain ⟨M_spot0, rfl, b_M_spot0⟩ := q0
  have z := all2_cons gf
  clear gf
  obtain ⟨v0, fs, rfl, q0, gf⟩ := z
  obtain ⟨M_pullAcross, rfl, b_M_pullAcross⟩ := q0
  have z := all2_cons gf
  clear gf
  obtain ⟨v0, fs, rfl, q0, gf⟩ := z
  obtain ⟨M_pullAlong, rfl, b_M_pullAlong⟩ := q0
  have z := all2_cons gf
  clear gf
  obtain ⟨v0, fs, rfl, q0, gf⟩ := z
  obtain ⟨M_stepsNow, rfl, b_M_stepsNow⟩ := q0
  have z := all2_cons gf
  clear gf
  obtain ⟨v0, fs, rfl, q0, gf⟩ := z
  obtain ⟨M_fallenNow, rfl, b_M_fallenNow⟩ := q0
  have z := all2_cons gf
  clear gf
  obtain ⟨v0, fs, rfl, q0, gf⟩ := z
  cases gT_r (τ := τ) (t := 25) (v := v0) rfl q0
  have z := all2_cons gf
  clear gf
  obtain ⟨v0, fs, rfl, q0, gf⟩ := z
  cases gT_r (τ := τ) (t := 26) (v := v0) rfl q0
  have z := all2_cons gf
  clear gf
  obtain ⟨v0, fs, rfl, q0, gf⟩ := z
  cases gT_r (τ := τ) (t := 27) (v := v0) rfl q0
  have z := all2_cons gf
  clear gf
  obtain ⟨v0, fs, rfl, q0, gf⟩ := z
  cases gT_r (τ := τ) (t := 28) (v := v0) rfl q0
  have z := all2_cons gf
  clear gf
  obtain ⟨v0, fs, rfl, q0, gf⟩ := z
  cases gT_r (τ := τ) (t := 29) (v := v0) rfl q0
  have z := all2_cons gf
  clear gf
  obtain ⟨v0, fs, rfl, q0, gf⟩ := z
  obtain ⟨M_isKept, rfl, e_M_isKept, b_M_isKept⟩ := gT_x (τ := τ) (t := 201) (v := v0) rfl q0
  cases fs with
  | cons _ _ => exact gf.elim
  | nil =>
    have z := all2_cons hh
    clear hh
    obtain ⟨e1, h, rfl, g1, hh⟩ := z
    rcases e1 with ⟨t1, n1, M_tape⟩ | ⟨ci, fs⟩
    rotate_left
    · exact g1.elim
    obtain ⟨et, en, b_M_tape⟩ := g1
    cases (et : t1 = 1)
    cases en
    cases h with
    | cons _ _ => exact hh.elim
    | nil =>
      obtain rfl : M_taped = nI 260 := i32eq.mpr (show M_taped.toInt = 260 by omega)
      refine n_X12_feed.mono (fun r h' hp => ?_)
      obtain ⟨rfl, rfl⟩ := hp
      exact ⟨τ, -1, hΦ, fun _ _ => rfl, rfl, rfl, ⟨⟨rfl, rfl, rfl, rfl, rfl, rfl, rfl, rfl, rfl, ⟨_, rfl, b_M_stampMany⟩, rfl, ⟨_, rfl, b_M_taped⟩, ⟨_, rfl, b_M_place0⟩, ⟨_, rfl, b_M_length0⟩, ⟨_, rfl, b_M_fault⟩, ⟨_, rfl, b_M_number0⟩, ⟨_, rfl, b_M_open⟩, ⟨_, rfl, b_M_codeMany⟩, ⟨_, rfl, b_M_waiting⟩, ⟨_, rfl, b_M_saidMany⟩, gT_mk rfl e_M_clauses b_M_clauses, rfl, rfl, rfl, rfl, rfl, rfl, rfl, rfl, rfl, rfl, rfl, rfl, rfl, rfl, rfl, rfl, rfl, ⟨_, rfl, b_M_newMany⟩, ⟨_, rfl, b_M_rounds⟩, ⟨_, rfl, b_M_stampFrom⟩, ⟨_, rfl, b_M_stampTimes⟩, ⟨_, rfl, b_M_lines⟩, ⟨_, rfl, b_M_spot0⟩, ⟨_, rfl, b_M_pullAcross⟩, ⟨_, rfl, b_M_pullAlong⟩, ⟨_, rfl, b_M_stepsNow⟩, ⟨_, rfl, b_M_fallenNow⟩, rfl, rfl, rfl, rfl, rfl, gT_mk rfl e_M_isKept b_M_isKept, trivial⟩, ⟨rfl, rfl, b_M_tape⟩, trivial⟩⟩

def HX_law20C_S : List AC := hc_589afa7506
def HY_law20C_S : List AC := hc_302ce35a21
def HZ_law20C_S : List AC := hc_deaa03670c
set_option maxRecDepth 100000 in
theorem x_law20C_S {l : Launch} {n : Nat} (h1 : 1 ≤ n ∧ n ≤ 20) : conOkY (MetP l 103 yX11_law cX11_law 4 (some .int) 0 0) [nI n] HX_law20C_S HY_law20C_S HZ_law20C_S (fun τ y => lwY (ob (decA (τ 250))) n y) := by
  intro τ hΦ h hh
  have z := all2_cons hh
  clear hh
  obtain ⟨e0, h, rfl, g0, hh⟩ := z
  rcases e0 with ⟨t0, n0, f0⟩ | ⟨ci, fs⟩
  · exact g0.elim
  obtain ⟨rfl, gf⟩ := g0
  have z := all2_cons gf
  clear gf
  obtain ⟨v0, fs, rfl, q0, gf⟩ := z
  cases (q0 : v0 = .inr (some (.inl 1)))
  have z := all2_cons gf
  clear gf
  obtain ⟨v0, fs, rfl, q0, gf⟩ := z
  cases gT_r (τ := τ) (t := 0) (v := v0) rfl q0
  have z := all2_cons gf
  clear gf
  obtain ⟨v0, fs, rfl, q0, gf⟩ := z
  cases gT_r (τ := τ) (t := 1) (v := v0) rfl q0
  have z := all2_cons gf
  clear gf
  obtain ⟨v0, fs, rfl, q0, gf⟩ := z
  cases gT_r (τ := τ) (t := 2) (v := v0) rfl q0
  have z := all2_cons gf
  clear gf
  obtain ⟨v0, fs, rfl, q0, gf⟩ := z
  cases gT_r (τ := τ) (t := 3) (v := v0) rfl q0
  have z := all2_cons gf
  clear gf
  obtain ⟨v0, fs, rfl, q0, gf⟩ := z
  cases gT_r (τ := τ) (t := 4) (v := v0) rfl q0
  have z := all2_cons gf
  clear gf
  obtain ⟨v0, fs, rfl, q0, gf⟩ := z
  cases gT_r (τ := τ) (t := 5) (v := v0) rfl q0
  have z := all2_cons gf
  clear gf
  obtain ⟨v0, fs, rfl, q0, gf⟩ := z
  cases gT_r (τ := τ) (t := 6) (v := v0) rfl q0
  have z := all2_cons gf
  clear gf
  obtain ⟨v0, fs, rfl, q0, gf⟩ := z
  cases gT_r (τ := τ) (t := 7) (v := v0) rfl q0
  have z := all2_cons gf
  clear gf
  obtain ⟨v0, fs, rfl, q0, gf⟩ := z
  cases gT_r (τ := τ) (t := 8) (v := v0) rfl q0
  have z := all2_cons gf
  clear gf
  obtain ⟨v0, fs, rfl, q0, gf⟩ := z
  cases (q0 : v0 = .inr (some (.inl 3)))
  have z := all2_cons gf
  clear gf
  obtain ⟨v0, fs, rfl, q0, gf⟩ := z
  cases gT_r (τ := τ) (t := 9) (v := v0) rfl q0
  have z := all2_cons gf
  clear gf
  obtain ⟨v0, fs, rfl, q0, gf⟩ := z
  cases gT_r (τ := τ) (t := 10) (v := v0) rfl q0
  have z := all2_cons gf
  clear gf
  obtain ⟨v0, fs, rfl, q0, gf⟩ := z
  cases (q0 : v0 = .inr (some (.inl 4)))
  have z := all2_cons gf
  clear gf
  obtain ⟨v0, fs, rfl, q0, gf⟩ := z
  obtain ⟨HS_wasKept, rfl, e_HS_wasKept, b_HS_wasKept⟩ := gT_x (τ := τ) (t := 201) (v := v0) rfl q0
  cases fs with
  | cons _ _ => exact gf.elim
  | nil =>
    have z := all2_cons hh
    clear hh
    obtain ⟨e0, h, rfl, g0, hh⟩ := z
    rcases e0 with ⟨t0, n0, f0⟩ | ⟨ci, fs⟩
    · exact g0.elim
    obtain ⟨rfl, gf⟩ := g0
    have z := all2_cons gf
    clear gf
    obtain ⟨v0, fs, rfl, q0, gf⟩ := z
    cases (q0 : v0 = .inr (some (.inl 2)))
    have z := all2_cons gf
    clear gf
    obtain ⟨v0, fs, rfl, q0, gf⟩ := z
    obtain ⟨Tape_size, rfl, b_Tape_size⟩ := q0
    cases fs with
    | cons _ _ => exact gf.elim
    | nil =>
      have z := all2_cons hh
      clear hh
      obtain ⟨e1, h, rfl, g1, hh⟩ := z
      rcases e1 with ⟨t1, n1, Tape_bytes⟩ | ⟨ci, fs⟩
      rotate_left
      · exact g1.elim
      obtain ⟨et, en, b_Tape_bytes⟩ := g1
      cases (et : t1 = 0)
      cases en
      have z := all2_cons hh
      clear hh
      obtain ⟨e0, h, rfl, g0, hh⟩ := z
      rcases e0 with ⟨t0, n0, f0⟩ | ⟨ci, fs⟩
      · exact g0.elim
      obtain ⟨rfl, gf⟩ := g0
      have z := all2_cons gf
      clear gf
      obtain ⟨v0, fs, rfl, q0, gf⟩ := z
      cases (q0 : v0 = .inr (some (.inl 2)))
      have z := all2_cons gf
      clear gf
      obtain ⟨v0, fs, rfl, q0, gf⟩ := z
      obtain ⟨LR_end, rfl, b_LR_end⟩ := q0
      have z := all2_cons gf
      clear gf
      obtain ⟨v0, fs, rfl, q0, gf⟩ := z
      obtain ⟨LR_at, rfl, b_LR_at⟩ := q0
      have z := all2_cons gf
      clear gf
      obtain ⟨v0, fs, rfl, q0, gf⟩ := z
      obtain ⟨LR_ahead, rfl, b_LR_ahead⟩ := q0
      have z := all2_cons gf
      clear gf
      obtain ⟨v0, fs, rfl, q0, gf⟩ := z
      obtain ⟨LR_fault, rfl, b_LR_fault⟩ := q0
      have z := all2_cons gf
      clear gf
      obtain ⟨v0, fs, rfl, q0, gf⟩ := z
      cases (q0 : v0 = .inr (some (.inl 4)))
      cases fs with
      | cons _ _ => exact gf.elim
      | nil =>
        have z := all2_cons hh
        clear hh
        obtain ⟨e0, h, rfl, g0, hh⟩ := z
        rcases e0 with ⟨t0, n0, f0⟩ | ⟨ci, fs⟩
        · exact g0.elim
        obtain ⟨rfl, gf⟩ := g0
        have z := all2_cons gf
        clear gf
        obtain ⟨v0, fs, rfl, q0, gf⟩ := z
        cases (q0 : v0 = .inr (some (.inl 5)))
        have z := all2_cons gf
        clear gf
        obtain ⟨v0, fs, rfl, q0, gf⟩ := z
        cases (q0 : v0 = .inr (some (.inl 6)))
        have z := all2_cons gf
        clear gf
        obtain ⟨v0, fs, rfl, q0, gf⟩ := z
        cases (q0 : v0 = .inr (some (.inl 7)))
        have z := all2_cons gf
        clear gf
        obtain ⟨v0, fs, rfl, q0, gf⟩ := z
        cases (q0 : v0 = .inr (some (.inl 8)))
        have z := all2_cons gf
        clear gf
        obtain ⟨v0, fs, rfl, q0, gf⟩ := z
        cases (q0 : v0 = .inr (some (.inl 9)))
        have z := all2_cons gf
        clear gf
        obtain ⟨v0, fs, rfl, q0, gf⟩ := z
        cases (q0 : v0 = .inr (some (.inl 10)))
        have z := all2_cons gf
        clear gf
        obtain ⟨v0, fs, rfl, q0, gf⟩ := z
        obtain ⟨Spare_rules, rfl, b_Spare_rules⟩ := q0
        have z := all2_cons gf
        clear gf
        obtain ⟨v0, fs, rfl, q0, gf⟩ := z
        obtain ⟨Spare_steps, rfl, b_Spare_steps⟩ := q0
        have z := all2_cons gf
        clear gf
        obtain ⟨v0, fs, rfl, q0, gf⟩ := z
        obtain ⟨Spare_waiting, rfl, b_Spare_waiting⟩ := q0
        have z := all2_cons gf
        clear gf
        obtain ⟨v0, fs, rfl, q0, gf⟩ := z
        obtain ⟨Spare_refused, rfl, b_Spare_refused⟩ := q0
        cases fs with
        | cons _ _ => exact gf.elim
        | nil =>
          have z := all2_cons hh
          clear hh
          obtain ⟨e1, h, rfl, g1, hh⟩ := z
          rcases e1 with ⟨t1, n1, Spare_kind⟩ | ⟨ci, fs⟩
          rotate_left
          · exact g1.elim
          obtain ⟨et, en, b_Spare_kind⟩ := g1
          cases (et : t1 = 0)
          cases en
          have z := all2_cons hh
          clear hh
          obtain ⟨e1, h, rfl, g1, hh⟩ := z
          rcases e1 with ⟨t1, n1, Spare_worthAt⟩ | ⟨ci, fs⟩
          rotate_left
          · exact g1.elim
          obtain ⟨et, en, b_Spare_worthAt⟩ := g1
          cases (et : t1 = 0)
          cases en
          have z := all2_cons hh
          clear hh
          obtain ⟨e1, h, rfl, g1, hh⟩ := z
          rcases e1 with ⟨t1, n1, Spare_testAt⟩ | ⟨ci, fs⟩
          rotate_left
          · exact g1.elim
          obtain ⟨et, en, b_Spare_testAt⟩ := g1
          cases (et : t1 = 0)
          cases en
          have z := all2_cons hh
          clear hh
          obtain ⟨e1, h, rfl, g1, hh⟩ := z
          rcases e1 with ⟨t1, n1, Spare_step⟩ | ⟨ci, fs⟩
          rotate_left
          · exact g1.elim
          obtain ⟨et, en, b_Spare_step⟩ := g1
          cases (et : t1 = 0)
          cases en
          have z := all2_cons hh
          clear hh
          obtain ⟨e1, h, rfl, g1, hh⟩ := z
          rcases e1 with ⟨t1, n1, Spare_beside⟩ | ⟨ci, fs⟩
          rotate_left
          · exact g1.elim
          obtain ⟨et, en, b_Spare_beside⟩ := g1
          cases (et : t1 = 0)
          cases en
          have z := all2_cons hh
          clear hh
          obtain ⟨e1, h, rfl, g1, hh⟩ := z
          rcases e1 with ⟨t1, n1, Spare_stack⟩ | ⟨ci, fs⟩
          rotate_left
          · exact g1.elim
          obtain ⟨et, en, b_Spare_stack⟩ := g1
          cases (et : t1 = 0)
          cases en
          cases h with
          | cons _ _ => exact hh.elim
          | nil =>
            obtain ⟨s, hs, rfl⟩ := rng_n (x := Tape_size) (k := 260) (by omega) b_Tape_size.2
            have es := sz_n (c := s) (by omega)
            obtain ⟨rF, eF⟩ := rg_x rfl b_Tape_bytes
            refine (c_X11_law_S (o := ob (decA (τ 250))) (n := n) (t := s) h1.1 (by omega) hs (by omega) (fun i hi => ob_ok (by omega) (eF i (by omega)) (rF i (by omega)))).mono (fun r h' hp => ?_)
            obtain ⟨y, K1, K2, K3, f1, f2, ru, at_, ah, fa, sp, hy, hru, hsp, rfl, (⟨w, rfl⟩ | ⟨w, rfl⟩)⟩ := hp
            · exact ⟨y, rfl, hy, Or.inl ⟨w, ⟨⟨rfl, rfl, rfl, rfl, rfl, rfl, rfl, rfl, rfl, rfl, rfl, rfl, rfl, rfl, rfl, gT_mk rfl e_HS_wasKept b_HS_wasKept, trivial⟩, ⟨rfl, rfl, ⟨0, rfl, by decide, by decide⟩, trivial⟩, ⟨rfl, rfl, b_Tape_bytes⟩, ⟨rfl, rfl, topA_ok _, topA_ok _, topA_ok _, topA_ok _, rfl, trivial⟩, ⟨rfl, rfl, rfl, rfl, rfl, rfl, rfl, ⟨_, rfl, hru⟩, ⟨_, rfl, hsp⟩, ⟨_, rfl, b_Spare_waiting⟩, ⟨_, rfl, b_Spare_refused⟩, trivial⟩, ⟨rfl, rfl, of_rg rg_top⟩, ⟨rfl, rfl, of_rg rg_top⟩, ⟨rfl, rfl, of_rg rg_top⟩, ⟨rfl, rfl, of_rg rg_top⟩, ⟨rfl, rfl, of_rg rg_top⟩, ⟨rfl, rfl, b_Spare_stack⟩, trivial⟩⟩⟩
            · exact ⟨y, rfl, hy, Or.inr ⟨w, ⟨⟨rfl, rfl, rfl, rfl, rfl, rfl, rfl, rfl, rfl, rfl, rfl, rfl, rfl, rfl, rfl, gT_mk rfl e_HS_wasKept b_HS_wasKept, trivial⟩, ⟨rfl, rfl, ⟨0, rfl, by decide, by decide⟩, trivial⟩, ⟨rfl, rfl, b_Tape_bytes⟩, ⟨rfl, rfl, topA_ok _, topA_ok _, topA_ok _, topA_ok _, rfl, trivial⟩, ⟨rfl, rfl, rfl, rfl, rfl, rfl, rfl, ⟨_, rfl, hru⟩, ⟨_, rfl, hsp⟩, ⟨_, rfl, b_Spare_waiting⟩, ⟨_, rfl, b_Spare_refused⟩, trivial⟩, ⟨rfl, rfl, of_rg rg_top⟩, ⟨rfl, rfl, of_rg rg_top⟩, ⟨rfl, rfl, of_rg rg_top⟩, ⟨rfl, rfl, of_rg rg_top⟩, ⟨rfl, rfl, of_rg rg_top⟩, ⟨rfl, rfl, b_Spare_stack⟩, trivial⟩⟩⟩

def HX_law20C_R : List AC := hc_78b358d7ea
def HY_law20C_R : List AC := hc_302ce35a21
def HZ_law20C_R : List AC := hc_deaa03670c
set_option maxRecDepth 100000 in
theorem x_law20C_R {l : Launch} {n : Nat} (h1 : 1 ≤ n ∧ n ≤ 20) : conOkY (MetP l 103 yX11_law cX11_law 4 (some .int) 0 0) [nI n] HX_law20C_R HY_law20C_R HZ_law20C_R (fun τ y => lwY (ob (decA (τ 250))) n y) := by
  intro τ hΦ h hh
  have z := all2_cons hh
  clear hh
  obtain ⟨e0, h, rfl, g0, hh⟩ := z
  rcases e0 with ⟨t0, n0, f0⟩ | ⟨ci, fs⟩
  · exact g0.elim
  obtain ⟨rfl, gf⟩ := g0
  have z := all2_cons gf
  clear gf
  obtain ⟨v0, fs, rfl, q0, gf⟩ := z
  cases (q0 : v0 = .inr (some (.inl 1)))
  have z := all2_cons gf
  clear gf
  obtain ⟨v0, fs, rfl, q0, gf⟩ := z
  cases gT_r (τ := τ) (t := 0) (v := v0) rfl q0
  have z := all2_cons gf
  clear gf
  obtain ⟨v0, fs, rfl, q0, gf⟩ := z
  cases gT_r (τ := τ) (t := 1) (v := v0) rfl q0
  have z := all2_cons gf
  clear gf
  obtain ⟨v0, fs, rfl, q0, gf⟩ := z
  cases gT_r (τ := τ) (t := 2) (v := v0) rfl q0
  have z := all2_cons gf
  clear gf
  obtain ⟨v0, fs, rfl, q0, gf⟩ := z
  cases gT_r (τ := τ) (t := 3) (v := v0) rfl q0
  have z := all2_cons gf
  clear gf
  obtain ⟨v0, fs, rfl, q0, gf⟩ := z
  cases gT_r (τ := τ) (t := 4) (v := v0) rfl q0
  have z := all2_cons gf
  clear gf
  obtain ⟨v0, fs, rfl, q0, gf⟩ := z
  cases gT_r (τ := τ) (t := 5) (v := v0) rfl q0
  have z := all2_cons gf
  clear gf
  obtain ⟨v0, fs, rfl, q0, gf⟩ := z
  cases gT_r (τ := τ) (t := 6) (v := v0) rfl q0
  have z := all2_cons gf
  clear gf
  obtain ⟨v0, fs, rfl, q0, gf⟩ := z
  cases gT_r (τ := τ) (t := 7) (v := v0) rfl q0
  have z := all2_cons gf
  clear gf
  obtain ⟨v0, fs, rfl, q0, gf⟩ := z
  cases gT_r (τ := τ) (t := 8) (v := v0) rfl q0
  have z := all2_cons gf
  clear gf
  obtain ⟨v0, fs, rfl, q0, gf⟩ := z
  cases (q0 : v0 = .inr (some (.inl 3)))
  have z := all2_cons gf
  clear gf
  obtain ⟨v0, fs, rfl, q0, gf⟩ := z
  cases gT_r (τ := τ) (t := 9) (v := v0) rfl q0
  have z := all2_cons gf
  clear gf
  obtain ⟨v0, fs, rfl, q0, gf⟩ := z
  cases gT_r (τ := τ) (t := 10) (v := v0) rfl q0
  have z := all2_cons gf
  clear gf
  obtain ⟨v0, fs, rfl, q0, gf⟩ := z
  cases (q0 : v0 = .inr (some (.inl 4)))
  have z := all2_cons gf
  clear gf
  obtain ⟨v0, fs, rfl, q0, gf⟩ := z
  obtain ⟨HS_wasKept, rfl, e_HS_wasKept, b_HS_wasKept⟩ := gT_x (τ := τ) (t := 201) (v := v0) rfl q0
  cases fs with
  | cons _ _ => exact gf.elim
  | nil =>
    have z := all2_cons hh
    clear hh
    obtain ⟨e0, h, rfl, g0, hh⟩ := z
    rcases e0 with ⟨t0, n0, f0⟩ | ⟨ci, fs⟩
    · exact g0.elim
    obtain ⟨rfl, gf⟩ := g0
    have z := all2_cons gf
    clear gf
    obtain ⟨v0, fs, rfl, q0, gf⟩ := z
    cases (q0 : v0 = .inr (some (.inl 2)))
    have z := all2_cons gf
    clear gf
    obtain ⟨v0, fs, rfl, q0, gf⟩ := z
    obtain ⟨Tape_size, rfl, b_Tape_size⟩ := q0
    cases fs with
    | cons _ _ => exact gf.elim
    | nil =>
      have z := all2_cons hh
      clear hh
      obtain ⟨e1, h, rfl, g1, hh⟩ := z
      rcases e1 with ⟨t1, n1, Tape_bytes⟩ | ⟨ci, fs⟩
      rotate_left
      · exact g1.elim
      obtain ⟨et, en, b_Tape_bytes⟩ := g1
      cases (et : t1 = 0)
      cases en
      have z := all2_cons hh
      clear hh
      obtain ⟨e0, h, rfl, g0, hh⟩ := z
      rcases e0 with ⟨t0, n0, f0⟩ | ⟨ci, fs⟩
      · exact g0.elim
      obtain ⟨rfl, gf⟩ := g0
      have z := all2_cons gf
      clear gf
      obtain ⟨v0, fs, rfl, q0, gf⟩ := z
      cases (q0 : v0 = .inr (some (.inl 2)))
      have z := all2_cons gf
      clear gf
      obtain ⟨v0, fs, rfl, q0, gf⟩ := z
      obtain ⟨LR_end, rfl, b_LR_end⟩ := q0
      have z := all2_cons gf
      clear gf
      obtain ⟨v0, fs, rfl, q0, gf⟩ := z
      obtain ⟨LR_at, rfl, b_LR_at⟩ := q0
      have z := all2_cons gf
      clear gf
      obtain ⟨v0, fs, rfl, q0, gf⟩ := z
      obtain ⟨LR_ahead, rfl, b_LR_ahead⟩ := q0
      have z := all2_cons gf
      clear gf
      obtain ⟨v0, fs, rfl, q0, gf⟩ := z
      obtain ⟨LR_fault, rfl, b_LR_fault⟩ := q0
      have z := all2_cons gf
      clear gf
      obtain ⟨v0, fs, rfl, q0, gf⟩ := z
      cases gT_r (τ := τ) (t := 10) (v := v0) rfl q0
      cases fs with
      | cons _ _ => exact gf.elim
      | nil =>
        have z := all2_cons hh
        clear hh
        obtain ⟨e0, h, rfl, g0, hh⟩ := z
        rcases e0 with ⟨t0, n0, f0⟩ | ⟨ci, fs⟩
        · exact g0.elim
        obtain ⟨rfl, gf⟩ := g0
        have z := all2_cons gf
        clear gf
        obtain ⟨v0, fs, rfl, q0, gf⟩ := z
        cases (q0 : v0 = .inr (some (.inl 5)))
        have z := all2_cons gf
        clear gf
        obtain ⟨v0, fs, rfl, q0, gf⟩ := z
        cases (q0 : v0 = .inr (some (.inl 6)))
        have z := all2_cons gf
        clear gf
        obtain ⟨v0, fs, rfl, q0, gf⟩ := z
        cases (q0 : v0 = .inr (some (.inl 7)))
        have z := all2_cons gf
        clear gf
        obtain ⟨v0, fs, rfl, q0, gf⟩ := z
        cases (q0 : v0 = .inr (some (.inl 8)))
        have z := all2_cons gf
        clear gf
        obtain ⟨v0, fs, rfl, q0, gf⟩ := z
        cases (q0 : v0 = .inr (some (.inl 9)))
        have z := all2_cons gf
        clear gf
        obtain ⟨v0, fs, rfl, q0, gf⟩ := z
        cases (q0 : v0 = .inr (some (.inl 10)))
        have z := all2_cons gf
        clear gf
        obtain ⟨v0, fs, rfl, q0, gf⟩ := z
        obtain ⟨Spare_rules, rfl, b_Spare_rules⟩ := q0
        have z := all2_cons gf
        clear gf
        obtain ⟨v0, fs, rfl, q0, gf⟩ := z
        obtain ⟨Spare_steps, rfl, b_Spare_steps⟩ := q0
        have z := all2_cons gf
        clear gf
        obtain ⟨v0, fs, rfl, q0, gf⟩ := z
        obtain ⟨Spare_waiting, rfl, b_Spare_waiting⟩ := q0
        have z := all2_cons gf
        clear gf
        obtain ⟨v0, fs, rfl, q0, gf⟩ := z
        obtain ⟨Spare_refused, rfl, b_Spare_refused⟩ := q0
        cases fs with
        | cons _ _ => exact gf.elim
        | nil =>
          have z := all2_cons hh
          clear hh
          obtain ⟨e1, h, rfl, g1, hh⟩ := z
          rcases e1 with ⟨t1, n1, Spare_kind⟩ | ⟨ci, fs⟩
          rotate_left
          · exact g1.elim
          obtain ⟨et, en, b_Spare_kind⟩ := g1
          cases (et : t1 = 0)
          cases en
          have z := all2_cons hh
          clear hh
          obtain ⟨e1, h, rfl, g1, hh⟩ := z
          rcases e1 with ⟨t1, n1, Spare_worthAt⟩ | ⟨ci, fs⟩
          rotate_left
          · exact g1.elim
          obtain ⟨et, en, b_Spare_worthAt⟩ := g1
          cases (et : t1 = 0)
          cases en
          have z := all2_cons hh
          clear hh
          obtain ⟨e1, h, rfl, g1, hh⟩ := z
          rcases e1 with ⟨t1, n1, Spare_testAt⟩ | ⟨ci, fs⟩
          rotate_left
          · exact g1.elim
          obtain ⟨et, en, b_Spare_testAt⟩ := g1
          cases (et : t1 = 0)
          cases en
          have z := all2_cons hh
          clear hh
          obtain ⟨e1, h, rfl, g1, hh⟩ := z
          rcases e1 with ⟨t1, n1, Spare_step⟩ | ⟨ci, fs⟩
          rotate_left
          · exact g1.elim
          obtain ⟨et, en, b_Spare_step⟩ := g1
          cases (et : t1 = 0)
          cases en
          have z := all2_cons hh
          clear hh
          obtain ⟨e1, h, rfl, g1, hh⟩ := z
          rcases e1 with ⟨t1, n1, Spare_beside⟩ | ⟨ci, fs⟩
          rotate_left
          · exact g1.elim
          obtain ⟨et, en, b_Spare_beside⟩ := g1
          cases (et : t1 = 0)
          cases en
          have z := all2_cons hh
          clear hh
          obtain ⟨e1, h, rfl, g1, hh⟩ := z
          rcases e1 with ⟨t1, n1, Spare_stack⟩ | ⟨ci, fs⟩
          rotate_left
          · exact g1.elim
          obtain ⟨et, en, b_Spare_stack⟩ := g1
          cases (et : t1 = 0)
          cases en
          cases h with
          | cons _ _ => exact hh.elim
          | nil =>
            obtain ⟨s, hs, rfl⟩ := rng_n (x := Tape_size) (k := 260) (by omega) b_Tape_size.2
            have es := sz_n (c := s) (by omega)
            obtain ⟨rF, eF⟩ := rg_x rfl b_Tape_bytes
            refine (c_X11_law_R (o := ob (decA (τ 250))) (n := n) (t := s) h1.1 (by omega) hs (by omega) (fun i hi => ob_ok (by omega) (eF i (by omega)) (rF i (by omega)))).mono (fun r h' hp => ?_)
            obtain ⟨y, K1, K2, K3, f1, f2, ru, at_, ah, fa, sp, hy, hru, hsp, rfl, (⟨w, rfl⟩ | ⟨w, rfl⟩)⟩ := hp
            · exact ⟨y, rfl, hy, Or.inl ⟨w, ⟨⟨rfl, rfl, rfl, rfl, rfl, rfl, rfl, rfl, rfl, rfl, rfl, rfl, rfl, rfl, rfl, gT_mk rfl e_HS_wasKept b_HS_wasKept, trivial⟩, ⟨rfl, rfl, ⟨0, rfl, by decide, by decide⟩, trivial⟩, ⟨rfl, rfl, b_Tape_bytes⟩, ⟨rfl, rfl, topA_ok _, topA_ok _, topA_ok _, topA_ok _, rfl, trivial⟩, ⟨rfl, rfl, rfl, rfl, rfl, rfl, rfl, ⟨_, rfl, hru⟩, ⟨_, rfl, hsp⟩, ⟨_, rfl, b_Spare_waiting⟩, ⟨_, rfl, b_Spare_refused⟩, trivial⟩, ⟨rfl, rfl, of_rg rg_top⟩, ⟨rfl, rfl, of_rg rg_top⟩, ⟨rfl, rfl, of_rg rg_top⟩, ⟨rfl, rfl, of_rg rg_top⟩, ⟨rfl, rfl, of_rg rg_top⟩, ⟨rfl, rfl, b_Spare_stack⟩, trivial⟩⟩⟩
            · exact ⟨y, rfl, hy, Or.inr ⟨w, ⟨⟨rfl, rfl, rfl, rfl, rfl, rfl, rfl, rfl, rfl, rfl, rfl, rfl, rfl, rfl, rfl, gT_mk rfl e_HS_wasKept b_HS_wasKept, trivial⟩, ⟨rfl, rfl, ⟨0, rfl, by decide, by decide⟩, trivial⟩, ⟨rfl, rfl, b_Tape_bytes⟩, ⟨rfl, rfl, topA_ok _, topA_ok _, topA_ok _, topA_ok _, rfl, trivial⟩, ⟨rfl, rfl, rfl, rfl, rfl, rfl, rfl, ⟨_, rfl, hru⟩, ⟨_, rfl, hsp⟩, ⟨_, rfl, b_Spare_waiting⟩, ⟨_, rfl, b_Spare_refused⟩, trivial⟩, ⟨rfl, rfl, of_rg rg_top⟩, ⟨rfl, rfl, of_rg rg_top⟩, ⟨rfl, rfl, of_rg rg_top⟩, ⟨rfl, rfl, of_rg rg_top⟩, ⟨rfl, rfl, of_rg rg_top⟩, ⟨rfl, rfl, b_Spare_stack⟩, trivial⟩⟩⟩

def HX_law40C_S : List AC := hc_473cab1f1d
def HY_law40C_S : List AC := hc_302ce35a21
def HZ_law40C_S : List AC := hc_deaa03670c
set_option maxRecDepth 100000 in
theorem x_law40C_S {l : Launch} {n : Nat} (h1 : 1 ≤ n ∧ n ≤ 40) : conOkY (MetP l 103 yX11_law cX11_law 4 (some .int) 0 0) [nI n] HX_law40C_S HY_law40C_S HZ_law40C_S (fun τ y => lwY (ob (decA (τ 250))) n y) := by
  intro τ hΦ h hh
  have z := all2_cons hh
  clear hh
  obtain ⟨e0, h, rfl, g0, hh⟩ := z
  rcases e0 with ⟨t0, n0, f0⟩ | ⟨ci, fs⟩
  · exact g0.elim
  obtain ⟨rfl, gf⟩ := g0
  have z := all2_cons gf
  clear gf
  obtain ⟨v0, fs, rfl, q0, gf⟩ := z
  cases (q0 : v0 = .inr (some (.inl 1)))
  have z := all2_cons gf
  clear gf
  obtain ⟨v0, fs, rfl, q0, gf⟩ := z
  cases gT_r (τ := τ) (t := 0) (v := v0) rfl q0
  have z := all2_cons gf
  clear gf
  obtain ⟨v0, fs, rfl, q0, gf⟩ := z
  cases gT_r (τ := τ) (t := 1) (v := v0) rfl q0
  have z := all2_cons gf
  clear gf
  obtain ⟨v0, fs, rfl, q0, gf⟩ := z
  cases gT_r (τ := τ) (t := 2) (v := v0) rfl q0
  have z := all2_cons gf
  clear gf
  obtain ⟨v0, fs, rfl, q0, gf⟩ := z
  cases gT_r (τ := τ) (t := 3) (v := v0) rfl q0
  have z := all2_cons gf
  clear gf
  obtain ⟨v0, fs, rfl, q0, gf⟩ := z
  cases gT_r (τ := τ) (t := 4) (v := v0) rfl q0
  have z := all2_cons gf
  clear gf
  obtain ⟨v0, fs, rfl, q0, gf⟩ := z
  cases gT_r (τ := τ) (t := 5) (v := v0) rfl q0
  have z := all2_cons gf
  clear gf
  obtain ⟨v0, fs, rfl, q0, gf⟩ := z
  cases gT_r (τ := τ) (t := 6) (v := v0) rfl q0
  have z := all2_cons gf
  clear gf
  obtain ⟨v0, fs, rfl, q0, gf⟩ := z
  cases gT_r (τ := τ) (t := 7) (v := v0) rfl q0
  have z := all2_cons gf
  clear gf
  obtain ⟨v0, fs, rfl, q0, gf⟩ := z
  cases gT_r (τ := τ) (t := 8) (v := v0) rfl q0
  have z := all2_cons gf
  clear gf
  obtain ⟨v0, fs, rfl, q0, gf⟩ := z
  cases (q0 : v0 = .inr (some (.inl 3)))
  have z := all2_cons gf
  clear gf
  obtain ⟨v0, fs, rfl, q0, gf⟩ := z
  cases gT_r (τ := τ) (t := 9) (v := v0) rfl q0
  have z := all2_cons gf
  clear gf
  obtain ⟨v0, fs, rfl, q0, gf⟩ := z
  cases gT_r (τ := τ) (t := 10) (v := v0) rfl q0
  have z := all2_cons gf
  clear gf
  obtain ⟨v0, fs, rfl, q0, gf⟩ := z
  cases (q0 : v0 = .inr (some (.inl 4)))
  have z := all2_cons gf
  clear gf
  obtain ⟨v0, fs, rfl, q0, gf⟩ := z
  obtain ⟨HS_wasKept, rfl, e_HS_wasKept, b_HS_wasKept⟩ := gT_x (τ := τ) (t := 201) (v := v0) rfl q0
  cases fs with
  | cons _ _ => exact gf.elim
  | nil =>
    have z := all2_cons hh
    clear hh
    obtain ⟨e0, h, rfl, g0, hh⟩ := z
    rcases e0 with ⟨t0, n0, f0⟩ | ⟨ci, fs⟩
    · exact g0.elim
    obtain ⟨rfl, gf⟩ := g0
    have z := all2_cons gf
    clear gf
    obtain ⟨v0, fs, rfl, q0, gf⟩ := z
    cases (q0 : v0 = .inr (some (.inl 2)))
    have z := all2_cons gf
    clear gf
    obtain ⟨v0, fs, rfl, q0, gf⟩ := z
    obtain ⟨Tape_size, rfl, b_Tape_size⟩ := q0
    cases fs with
    | cons _ _ => exact gf.elim
    | nil =>
      have z := all2_cons hh
      clear hh
      obtain ⟨e1, h, rfl, g1, hh⟩ := z
      rcases e1 with ⟨t1, n1, Tape_bytes⟩ | ⟨ci, fs⟩
      rotate_left
      · exact g1.elim
      obtain ⟨et, en, b_Tape_bytes⟩ := g1
      cases (et : t1 = 0)
      cases en
      have z := all2_cons hh
      clear hh
      obtain ⟨e0, h, rfl, g0, hh⟩ := z
      rcases e0 with ⟨t0, n0, f0⟩ | ⟨ci, fs⟩
      · exact g0.elim
      obtain ⟨rfl, gf⟩ := g0
      have z := all2_cons gf
      clear gf
      obtain ⟨v0, fs, rfl, q0, gf⟩ := z
      cases (q0 : v0 = .inr (some (.inl 2)))
      have z := all2_cons gf
      clear gf
      obtain ⟨v0, fs, rfl, q0, gf⟩ := z
      obtain ⟨LR_end, rfl, b_LR_end⟩ := q0
      have z := all2_cons gf
      clear gf
      obtain ⟨v0, fs, rfl, q0, gf⟩ := z
      obtain ⟨LR_at, rfl, b_LR_at⟩ := q0
      have z := all2_cons gf
      clear gf
      obtain ⟨v0, fs, rfl, q0, gf⟩ := z
      obtain ⟨LR_ahead, rfl, b_LR_ahead⟩ := q0
      have z := all2_cons gf
      clear gf
      obtain ⟨v0, fs, rfl, q0, gf⟩ := z
      obtain ⟨LR_fault, rfl, b_LR_fault⟩ := q0
      have z := all2_cons gf
      clear gf
      obtain ⟨v0, fs, rfl, q0, gf⟩ := z
      cases (q0 : v0 = .inr (some (.inl 4)))
      cases fs with
      | cons _ _ => exact gf.elim
      | nil =>
        have z := all2_cons hh
        clear hh
        obtain ⟨e0, h, rfl, g0, hh⟩ := z
        rcases e0 with ⟨t0, n0, f0⟩ | ⟨ci, fs⟩
        · exact g0.elim
        obtain ⟨rfl, gf⟩ := g0
        have z := all2_cons gf
        clear gf
        obtain ⟨v0, fs, rfl, q0, gf⟩ := z
        cases (q0 : v0 = .inr (some (.inl 5)))
        have z := all2_cons gf
        clear gf
        obtain ⟨v0, fs, rfl, q0, gf⟩ := z
        cases (q0 : v0 = .inr (some (.inl 6)))
        have z := all2_cons gf
        clear gf
        obtain ⟨v0, fs, rfl, q0, gf⟩ := z
        cases (q0 : v0 = .inr (some (.inl 7)))
        have z := all2_cons gf
        clear gf
        obtain ⟨v0, fs, rfl, q0, gf⟩ := z
        cases (q0 : v0 = .inr (some (.inl 8)))
        have z := all2_cons gf
        clear gf
        obtain ⟨v0, fs, rfl, q0, gf⟩ := z
        cases (q0 : v0 = .inr (some (.inl 9)))
        have z := all2_cons gf
        clear gf
        obtain ⟨v0, fs, rfl, q0, gf⟩ := z
        cases (q0 : v0 = .inr (some (.inl 10)))
        have z := all2_cons gf
        clear gf
        obtain ⟨v0, fs, rfl, q0, gf⟩ := z
        obtain ⟨Spare_rules, rfl, b_Spare_rules⟩ := q0
        have z := all2_cons gf
        clear gf
        obtain ⟨v0, fs, rfl, q0, gf⟩ := z
        obtain ⟨Spare_steps, rfl, b_Spare_steps⟩ := q0
        have z := all2_cons gf
        clear gf
        obtain ⟨v0, fs, rfl, q0, gf⟩ := z
        obtain ⟨Spare_waiting, rfl, b_Spare_waiting⟩ := q0
        have z := all2_cons gf
        clear gf
        obtain ⟨v0, fs, rfl, q0, gf⟩ := z
        obtain ⟨Spare_refused, rfl, b_Spare_refused⟩ := q0
        cases fs with
        | cons _ _ => exact gf.elim
        | nil =>
          have z := all2_cons hh
          clear hh
          obtain ⟨e1, h, rfl, g1, hh⟩ := z
          rcases e1 with ⟨t1, n1, Spare_kind⟩ | ⟨ci, fs⟩
          rotate_left
          · exact g1.elim
          obtain ⟨et, en, b_Spare_kind⟩ := g1
          cases (et : t1 = 0)
          cases en
          have z := all2_cons hh
          clear hh
          obtain ⟨e1, h, rfl, g1, hh⟩ := z
          rcases e1 with ⟨t1, n1, Spare_worthAt⟩ | ⟨ci, fs⟩
          rotate_left
          · exact g1.elim
          obtain ⟨et, en, b_Spare_worthAt⟩ := g1
          cases (et : t1 = 0)
          cases en
          have z := all2_cons hh
          clear hh
          obtain ⟨e1, h, rfl, g1, hh⟩ := z
          rcases e1 with ⟨t1, n1, Spare_testAt⟩ | ⟨ci, fs⟩
          rotate_left
          · exact g1.elim
          obtain ⟨et, en, b_Spare_testAt⟩ := g1
          cases (et : t1 = 0)
          cases en
          have z := all2_cons hh
          clear hh
          obtain ⟨e1, h, rfl, g1, hh⟩ := z
          rcases e1 with ⟨t1, n1, Spare_step⟩ | ⟨ci, fs⟩
          rotate_left
          · exact g1.elim
          obtain ⟨et, en, b_Spare_step⟩ := g1
          cases (et : t1 = 0)
          cases en
          have z := all2_cons hh
          clear hh
          obtain ⟨e1, h, rfl, g1, hh⟩ := z
          rcases e1 with ⟨t1, n1, Spare_beside⟩ | ⟨ci, fs⟩
          rotate_left
          · exact g1.elim
          obtain ⟨et, en, b_Spare_beside⟩ := g1
          cases (et : t1 = 0)
          cases en
          have z := all2_cons hh
          clear hh
          obtain ⟨e1, h, rfl, g1, hh⟩ := z
          rcases e1 with ⟨t1, n1, Spare_stack⟩ | ⟨ci, fs⟩
          rotate_left
          · exact g1.elim
          obtain ⟨et, en, b_Spare_stack⟩ := g1
          cases (et : t1 = 0)
          cases en
          cases h with
          | cons _ _ => exact hh.elim
          | nil =>
            obtain ⟨s, hs, rfl⟩ := rng_n (x := Tape_size) (k := 260) (by omega) b_Tape_size.2
            have es := sz_n (c := s) (by omega)
            obtain ⟨rF, eF⟩ := rg_x rfl b_Tape_bytes
            refine (c_X11_law_S (o := ob (decA (τ 250))) (n := n) (t := s) h1.1 (by omega) hs (by omega) (fun i hi => ob_ok (by omega) (eF i (by omega)) (rF i (by omega)))).mono (fun r h' hp => ?_)
            obtain ⟨y, K1, K2, K3, f1, f2, ru, at_, ah, fa, sp, hy, hru, hsp, rfl, (⟨w, rfl⟩ | ⟨w, rfl⟩)⟩ := hp
            · exact ⟨y, rfl, hy, Or.inl ⟨w, ⟨⟨rfl, rfl, rfl, rfl, rfl, rfl, rfl, rfl, rfl, rfl, rfl, rfl, rfl, rfl, rfl, gT_mk rfl e_HS_wasKept b_HS_wasKept, trivial⟩, ⟨rfl, rfl, ⟨0, rfl, by decide, by decide⟩, trivial⟩, ⟨rfl, rfl, b_Tape_bytes⟩, ⟨rfl, rfl, topA_ok _, topA_ok _, topA_ok _, topA_ok _, rfl, trivial⟩, ⟨rfl, rfl, rfl, rfl, rfl, rfl, rfl, ⟨_, rfl, hru⟩, ⟨_, rfl, hsp⟩, ⟨_, rfl, b_Spare_waiting⟩, ⟨_, rfl, b_Spare_refused⟩, trivial⟩, ⟨rfl, rfl, of_rg rg_top⟩, ⟨rfl, rfl, of_rg rg_top⟩, ⟨rfl, rfl, of_rg rg_top⟩, ⟨rfl, rfl, of_rg rg_top⟩, ⟨rfl, rfl, of_rg rg_top⟩, ⟨rfl, rfl, b_Spare_stack⟩, trivial⟩⟩⟩
            · exact ⟨y, rfl, hy, Or.inr ⟨w, ⟨⟨rfl, rfl, rfl, rfl, rfl, rfl, rfl, rfl, rfl, rfl, rfl, rfl, rfl, rfl, rfl, gT_mk rfl e_HS_wasKept b_HS_wasKept, trivial⟩, ⟨rfl, rfl, ⟨0, rfl, by decide, by decide⟩, trivial⟩, ⟨rfl, rfl, b_Tape_bytes⟩, ⟨rfl, rfl, topA_ok _, topA_ok _, topA_ok _, topA_ok _, rfl, trivial⟩, ⟨rfl, rfl, rfl, rfl, rfl, rfl, rfl, ⟨_, rfl, hru⟩, ⟨_, rfl, hsp⟩, ⟨_, rfl, b_Spare_waiting⟩, ⟨_, rfl, b_Spare_refused⟩, trivial⟩, ⟨rfl, rfl, of_rg rg_top⟩, ⟨rfl, rfl, of_rg rg_top⟩, ⟨rfl, rfl, of_rg rg_top⟩, ⟨rfl, rfl, of_rg rg_top⟩, ⟨rfl, rfl, of_rg rg_top⟩, ⟨rfl, rfl, b_Spare_stack⟩, trivial⟩⟩⟩

def HX_law40C_R : List AC := hc_1b80c86dda
def HY_law40C_R : List AC := hc_302ce35a21
def HZ_law40C_R : List AC := hc_deaa03670c
set_option maxRecDepth 100000 in
theorem x_law40C_R {l : Launch} {n : Nat} (h1 : 1 ≤ n ∧ n ≤ 40) : conOkY (MetP l 103 yX11_law cX11_law 4 (some .int) 0 0) [nI n] HX_law40C_R HY_law40C_R HZ_law40C_R (fun τ y => lwY (ob (decA (τ 250))) n y) := by
  intro τ hΦ h hh
  have z := all2_cons hh
  clear hh
  obtain ⟨e0, h, rfl, g0, hh⟩ := z
  rcases e0 with ⟨t0, n0, f0⟩ | ⟨ci, fs⟩
  · exact g0.elim
  obtain ⟨rfl, gf⟩ := g0
  have z := all2_cons gf
  clear gf
  obtain ⟨v0, fs, rfl, q0, gf⟩ := z
  cases (q0 : v0 = .inr (some (.inl 1)))
  have z := all2_cons gf
  clear gf
  obtain ⟨v0, fs, rfl, q0, gf⟩ := z
  cases gT_r (τ := τ) (t := 0) (v := v0) rfl q0
  have z := all2_cons gf
  clear gf
  obtain ⟨v0, fs, rfl, q0, gf⟩ := z
  cases gT_r (τ := τ) (t := 1) (v := v0) rfl q0
  have z := all2_cons gf
  clear gf
  obtain ⟨v0, fs, rfl, q0, gf⟩ := z
  cases gT_r (τ := τ) (t := 2) (v := v0) rfl q0
  have z := all2_cons gf
  clear gf
  obtain ⟨v0, fs, rfl, q0, gf⟩ := z
  cases gT_r (τ := τ) (t := 3) (v := v0) rfl q0
  have z := all2_cons gf
  clear gf
  obtain ⟨v0, fs, rfl, q0, gf⟩ := z
  cases gT_r (τ := τ) (t := 4) (v := v0) rfl q0
  have z := all2_cons gf
  clear gf
  obtain ⟨v0, fs, rfl, q0, gf⟩ := z
  cases gT_r (τ := τ) (t := 5) (v := v0) rfl q0
  have z := all2_cons gf
  clear gf
  obtain ⟨v0, fs, rfl, q0, gf⟩ := z
  cases gT_r (τ := τ) (t := 6) (v := v0) rfl q0
  have z := all2_cons gf
  clear gf
  obtain ⟨v0, fs, rfl, q0, gf⟩ := z
  cases gT_r (τ := τ) (t := 7) (v := v0) rfl q0
  have z := all2_cons gf
  clear gf
  obtain ⟨v0, fs, rfl, q0, gf⟩ := z
  cases gT_r (τ := τ) (t := 8) (v := v0) rfl q0
  have z := all2_cons gf
  clear gf
  obtain ⟨v0, fs, rfl, q0, gf⟩ := z
  cases (q0 : v0 = .inr (some (.inl 3)))
  have z := all2_cons gf
  clear gf
  obtain ⟨v0, fs, rfl, q0, gf⟩ := z
  cases gT_r (τ := τ) (t := 9) (v := v0) rfl q0
  have z := all2_cons gf
  clear gf
  obtain ⟨v0, fs, rfl, q0, gf⟩ := z
  cases gT_r (τ := τ) (t := 10) (v := v0) rfl q0
  have z := all2_cons gf
  clear gf
  obtain ⟨v0, fs, rfl, q0, gf⟩ := z
  cases (q0 : v0 = .inr (some (.inl 4)))
  have z := all2_cons gf
  clear gf
  obtain ⟨v0, fs, rfl, q0, gf⟩ := z
  obtain ⟨HS_wasKept, rfl, e_HS_wasKept, b_HS_wasKept⟩ := gT_x (τ := τ) (t := 201) (v := v0) rfl q0
  cases fs with
  | cons _ _ => exact gf.elim
  | nil =>
    have z := all2_cons hh
    clear hh
    obtain ⟨e0, h, rfl, g0, hh⟩ := z
    rcases e0 with ⟨t0, n0, f0⟩ | ⟨ci, fs⟩
    · exact g0.elim
    obtain ⟨rfl, gf⟩ := g0
    have z := all2_cons gf
    clear gf
    obtain ⟨v0, fs, rfl, q0, gf⟩ := z
    cases (q0 : v0 = .inr (some (.inl 2)))
    have z := all2_cons gf
    clear gf
    obtain ⟨v0, fs, rfl, q0, gf⟩ := z
    obtain ⟨Tape_size, rfl, b_Tape_size⟩ := q0
    cases fs with
    | cons _ _ => exact gf.elim
    | nil =>
      have z := all2_cons hh
      clear hh
      obtain ⟨e1, h, rfl, g1, hh⟩ := z
      rcases e1 with ⟨t1, n1, Tape_bytes⟩ | ⟨ci, fs⟩
      rotate_left
      · exact g1.elim
      obtain ⟨et, en, b_Tape_bytes⟩ := g1
      cases (et : t1 = 0)
      cases en
      have z := all2_cons hh
      clear hh
      obtain ⟨e0, h, rfl, g0, hh⟩ := z
      rcases e0 with ⟨t0, n0, f0⟩ | ⟨ci, fs⟩
      · exact g0.elim
      obtain ⟨rfl, gf⟩ := g0
      have z := all2_cons gf
      clear gf
      obtain ⟨v0, fs, rfl, q0, gf⟩ := z
      cases (q0 : v0 = .inr (some (.inl 2)))
      have z := all2_cons gf
      clear gf
      obtain ⟨v0, fs, rfl, q0, gf⟩ := z
      obtain ⟨LR_end, rfl, b_LR_end⟩ := q0
      have z := all2_cons gf
      clear gf
      obtain ⟨v0, fs, rfl, q0, gf⟩ := z
      obtain ⟨LR_at, rfl, b_LR_at⟩ := q0
      have z := all2_cons gf
      clear gf
      obtain ⟨v0, fs, rfl, q0, gf⟩ := z
      obtain ⟨LR_ahead, rfl, b_LR_ahead⟩ := q0
      have z := all2_cons gf
      clear gf
      obtain ⟨v0, fs, rfl, q0, gf⟩ := z
      obtain ⟨LR_fault, rfl, b_LR_fault⟩ := q0
      have z := all2_cons gf
      clear gf
      obtain ⟨v0, fs, rfl, q0, gf⟩ := z
      cases gT_r (τ := τ) (t := 10) (v := v0) rfl q0
      cases fs with
      | cons _ _ => exact gf.elim
      | nil =>
        have z := all2_cons hh
        clear hh
        obtain ⟨e0, h, rfl, g0, hh⟩ := z
        rcases e0 with ⟨t0, n0, f0⟩ | ⟨ci, fs⟩
        · exact g0.elim
        obtain ⟨rfl, gf⟩ := g0
        have z := all2_cons gf
        clear gf
        obtain ⟨v0, fs, rfl, q0, gf⟩ := z
        cases (q0 : v0 = .inr (some (.inl 5)))
        have z := all2_cons gf
        clear gf
        obtain ⟨v0, fs, rfl, q0, gf⟩ := z
        cases (q0 : v0 = .inr (some (.inl 6)))
        have z := all2_cons gf
        clear gf
        obtain ⟨v0, fs, rfl, q0, gf⟩ := z
        cases (q0 : v0 = .inr (some (.inl 7)))
        have z := all2_cons gf
        clear gf
        obtain ⟨v0, fs, rfl, q0, gf⟩ := z
        cases (q0 : v0 = .inr (some (.inl 8)))
        have z := all2_cons gf
        clear gf
        obtain ⟨v0, fs, rfl, q0, gf⟩ := z
        cases (q0 : v0 = .inr (some (.inl 9)))
        have z := all2_cons gf
        clear gf
        obtain ⟨v0, fs, rfl, q0, gf⟩ := z
        cases (q0 : v0 = .inr (some (.inl 10)))
        have z := all2_cons gf
        clear gf
        obtain ⟨v0, fs, rfl, q0, gf⟩ := z
        obtain ⟨Spare_rules, rfl, b_Spare_rules⟩ := q0
        have z := all2_cons gf
        clear gf
        obtain ⟨v0, fs, rfl, q0, gf⟩ := z
        obtain ⟨Spare_steps, rfl, b_Spare_steps⟩ := q0
        have z := all2_cons gf
        clear gf
        obtain ⟨v0, fs, rfl, q0, gf⟩ := z
        obtain ⟨Spare_waiting, rfl, b_Spare_waiting⟩ := q0
        have z := all2_cons gf
        clear gf
        obtain ⟨v0, fs, rfl, q0, gf⟩ := z
        obtain ⟨Spare_refused, rfl, b_Spare_refused⟩ := q0
        cases fs with
        | cons _ _ => exact gf.elim
        | nil =>
          have z := all2_cons hh
          clear hh
          obtain ⟨e1, h, rfl, g1, hh⟩ := z
          rcases e1 with ⟨t1, n1, Spare_kind⟩ | ⟨ci, fs⟩
          rotate_left
          · exact g1.elim
          obtain ⟨et, en, b_Spare_kind⟩ := g1
          cases (et : t1 = 0)
          cases en
          have z := all2_cons hh
          clear hh
          obtain ⟨e1, h, rfl, g1, hh⟩ := z
          rcases e1 with ⟨t1, n1, Spare_worthAt⟩ | ⟨ci, fs⟩
          rotate_left
          · exact g1.elim
          obtain ⟨et, en, b_Spare_worthAt⟩ := g1
          cases (et : t1 = 0)
          cases en
          have z := all2_cons hh
          clear hh
          obtain ⟨e1, h, rfl, g1, hh⟩ := z
          rcases e1 with ⟨t1, n1, Spare_testAt⟩ | ⟨ci, fs⟩
          rotate_left
          · exact g1.elim
          obtain ⟨et, en, b_Spare_testAt⟩ := g1
          cases (et : t1 = 0)
          cases en
          have z := all2_cons hh
          clear hh
          obtain ⟨e1, h, rfl, g1, hh⟩ := z
          rcases e1 with ⟨t1, n1, Spare_step⟩ | ⟨ci, fs⟩
          rotate_left
          · exact g1.elim
          obtain ⟨et, en, b_Spare_step⟩ := g1
          cases (et : t1 = 0)
          cases en
          have z := all2_cons hh
          clear hh
          obtain ⟨e1, h, rfl, g1, hh⟩ := z
          rcases e1 with ⟨t1, n1, Spare_beside⟩ | ⟨ci, fs⟩
          rotate_left
          · exact g1.elim
          obtain ⟨et, en, b_Spare_beside⟩ := g1
          cases (et : t1 = 0)
          cases en
          have z := all2_cons hh
          clear hh
          obtain ⟨e1, h, rfl, g1, hh⟩ := z
          rcases e1 with ⟨t1, n1, Spare_stack⟩ | ⟨ci, fs⟩
          rotate_left
          · exact g1.elim
          obtain ⟨et, en, b_Spare_stack⟩ := g1
          cases (et : t1 = 0)
          cases en
          cases h with
          | cons _ _ => exact hh.elim
          | nil =>
            obtain ⟨s, hs, rfl⟩ := rng_n (x := Tape_size) (k := 260) (by omega) b_Tape_size.2
            have es := sz_n (c := s) (by omega)
            obtain ⟨rF, eF⟩ := rg_x rfl b_Tape_bytes
            refine (c_X11_law_R (o := ob (decA (τ 250))) (n := n) (t := s) h1.1 (by omega) hs (by omega) (fun i hi => ob_ok (by omega) (eF i (by omega)) (rF i (by omega)))).mono (fun r h' hp => ?_)
            obtain ⟨y, K1, K2, K3, f1, f2, ru, at_, ah, fa, sp, hy, hru, hsp, rfl, (⟨w, rfl⟩ | ⟨w, rfl⟩)⟩ := hp
            · exact ⟨y, rfl, hy, Or.inl ⟨w, ⟨⟨rfl, rfl, rfl, rfl, rfl, rfl, rfl, rfl, rfl, rfl, rfl, rfl, rfl, rfl, rfl, gT_mk rfl e_HS_wasKept b_HS_wasKept, trivial⟩, ⟨rfl, rfl, ⟨0, rfl, by decide, by decide⟩, trivial⟩, ⟨rfl, rfl, b_Tape_bytes⟩, ⟨rfl, rfl, topA_ok _, topA_ok _, topA_ok _, topA_ok _, rfl, trivial⟩, ⟨rfl, rfl, rfl, rfl, rfl, rfl, rfl, ⟨_, rfl, hru⟩, ⟨_, rfl, hsp⟩, ⟨_, rfl, b_Spare_waiting⟩, ⟨_, rfl, b_Spare_refused⟩, trivial⟩, ⟨rfl, rfl, of_rg rg_top⟩, ⟨rfl, rfl, of_rg rg_top⟩, ⟨rfl, rfl, of_rg rg_top⟩, ⟨rfl, rfl, of_rg rg_top⟩, ⟨rfl, rfl, of_rg rg_top⟩, ⟨rfl, rfl, b_Spare_stack⟩, trivial⟩⟩⟩
            · exact ⟨y, rfl, hy, Or.inr ⟨w, ⟨⟨rfl, rfl, rfl, rfl, rfl, rfl, rfl, rfl, rfl, rfl, rfl, rfl, rfl, rfl, rfl, gT_mk rfl e_HS_wasKept b_HS_wasKept, trivial⟩, ⟨rfl, rfl, ⟨0, rfl, by decide, by decide⟩, trivial⟩, ⟨rfl, rfl, b_Tape_bytes⟩, ⟨rfl, rfl, topA_ok _, topA_ok _, topA_ok _, topA_ok _, rfl, trivial⟩, ⟨rfl, rfl, rfl, rfl, rfl, rfl, rfl, ⟨_, rfl, hru⟩, ⟨_, rfl, hsp⟩, ⟨_, rfl, b_Spare_waiting⟩, ⟨_, rfl, b_Spare_refused⟩, trivial⟩, ⟨rfl, rfl, of_rg rg_top⟩, ⟨rfl, rfl, of_rg rg_top⟩, ⟨rfl, rfl, of_rg rg_top⟩, ⟨rfl, rfl, of_rg rg_top⟩, ⟨rfl, rfl, of_rg rg_top⟩, ⟨rfl, rfl, b_Spare_stack⟩, trivial⟩⟩⟩

def HX_law60C_S : List AC := hc_7a944cfb28
def HY_law60C_S : List AC := hc_302ce35a21
def HZ_law60C_S : List AC := hc_deaa03670c
set_option maxRecDepth 100000 in
theorem x_law60C_S {l : Launch} {n : Nat} (h1 : 1 ≤ n ∧ n ≤ 60) : conOkY (MetP l 103 yX11_law cX11_law 4 (some .int) 0 0) [nI n] HX_law60C_S HY_law60C_S HZ_law60C_S (fun τ y => lwY (ob (decA (τ 250))) n y) := by
  intro τ hΦ h hh
  have z := all2_cons hh
  clear hh
  obtain ⟨e0, h, rfl, g0, hh⟩ := z
  rcases e0 with ⟨t0, n0, f0⟩ | ⟨ci, fs⟩
  · exact g0.elim
  obtain ⟨rfl, gf⟩ := g0
  have z := all2_cons gf
  clear gf
  obtain ⟨v0, fs, rfl, q0, gf⟩ := z
  cases (q0 : v0 = .inr (some (.inl 1)))
  have z := all2_cons gf
  clear gf
  obtain ⟨v0, fs, rfl, q0, gf⟩ := z
  cases gT_r (τ := τ) (t := 0) (v := v0) rfl q0
  have z := all2_cons gf
  clear gf
  obtain ⟨v0, fs, rfl, q0, gf⟩ := z
  cases gT_r (τ := τ) (t := 1) (v := v0) rfl q0
  have z := all2_cons gf
  clear gf
  obtain ⟨v0, fs, rfl, q0, gf⟩ := z
  cases gT_r (τ := τ) (t := 2) (v := v0) rfl q0
  have z := all2_cons gf
  clear gf
  obtain ⟨v0, fs, rfl, q0, gf⟩ := z
  cases gT_r (τ := τ) (t := 3) (v := v0) rfl q0
  have z := all2_cons gf
  clear gf
  obtain ⟨v0, fs, rfl, q0, gf⟩ := z
  cases gT_r (τ := τ) (t := 4) (v := v0) rfl q0
  have z := all2_cons gf
  clear gf
  obtain ⟨v0, fs, rfl, q0, gf⟩ := z
  cases gT_r (τ := τ) (t := 5) (v := v0) rfl q0
  have z := all2_cons gf
  clear gf
  obtain ⟨v0, fs, rfl, q0, gf⟩ := z
  cases gT_r (τ := τ) (t := 6) (v := v0) rfl q0
  have z := all2_cons gf
  clear gf
  obtain ⟨v0, fs, rfl, q0, gf⟩ := z
  cases gT_r (τ := τ) (t := 7) (v := v0) rfl q0
  have z := all2_cons gf
  clear gf
  obtain ⟨v0, fs, rfl, q0, gf⟩ := z
  cases gT_r (τ := τ) (t := 8) (v := v0) rfl q0
  have z := all2_cons gf
  clear gf
  obtain ⟨v0, fs, rfl, q0, gf⟩ := z
  cases (q0 : v0 = .inr (some (.inl 3)))
  have z := all2_cons gf
  clear gf
  obtain ⟨v0, fs, rfl, q0, gf⟩ := z
  cases gT_r (τ := τ) (t := 9) (v := v0) rfl q0
  have z := all2_cons gf
  clear gf
  obtain ⟨v0, fs, rfl, q0, gf⟩ := z
  cases gT_r (τ := τ) (t := 10) (v := v0) rfl q0
  have z := all2_cons gf
  clear gf
  obtain ⟨v0, fs, rfl, q0, gf⟩ := z
  cases (q0 : v0 = .inr (some (.inl 4)))
  have z := all2_cons gf
  clear gf
  obtain ⟨v0, fs, rfl, q0, gf⟩ := z
  obtain ⟨HS_wasKept, rfl, e_HS_wasKept, b_HS_wasKept⟩ := gT_x (τ := τ) (t := 201) (v := v0) rfl q0
  cases fs with
  | cons _ _ => exact gf.elim
  | nil =>
    have z := all2_cons hh
    clear hh
    obtain ⟨e0, h, rfl, g0, hh⟩ := z
    rcases e0 with ⟨t0, n0, f0⟩ | ⟨ci, fs⟩
    · exact g0.elim
    obtain ⟨rfl, gf⟩ := g0
    have z := all2_cons gf
    clear gf
    obtain ⟨v0, fs, rfl, q0, gf⟩ := z
    cases (q0 : v0 = .inr (some (.inl 2)))
    have z := all2_cons gf
    clear gf
    obtain ⟨v0, fs, rfl, q0, gf⟩ := z
    obtain ⟨Tape_size, rfl, b_Tape_size⟩ := q0
    cases fs with
    | cons _ _ => exact gf.elim
    | nil =>
      have z := all2_cons hh
      clear hh
      obtain ⟨e1, h, rfl, g1, hh⟩ := z
      rcases e1 with ⟨t1, n1, Tape_bytes⟩ | ⟨ci, fs⟩
      rotate_left
      · exact g1.elim
      obtain ⟨et, en, b_Tape_bytes⟩ := g1
      cases (et : t1 = 0)
      cases en
      have z := all2_cons hh
      clear hh
      obtain ⟨e0, h, rfl, g0, hh⟩ := z
      rcases e0 with ⟨t0, n0, f0⟩ | ⟨ci, fs⟩
      · exact g0.elim
      obtain ⟨rfl, gf⟩ := g0
      have z := all2_cons gf
      clear gf
      obtain ⟨v0, fs, rfl, q0, gf⟩ := z
      cases (q0 : v0 = .inr (some (.inl 2)))
      have z := all2_cons gf
      clear gf
      obtain ⟨v0, fs, rfl, q0, gf⟩ := z
      obtain ⟨LR_end, rfl, b_LR_end⟩ := q0
      have z := all2_cons gf
      clear gf
      obtain ⟨v0, fs, rfl, q0, gf⟩ := z
      obtain ⟨LR_at, rfl, b_LR_at⟩ := q0
      have z := all2_cons gf
      clear gf
      obtain ⟨v0, fs, rfl, q0, gf⟩ := z
      obtain ⟨LR_ahead, rfl, b_LR_ahead⟩ := q0
      have z := all2_cons gf
      clear gf
      obtain ⟨v0, fs, rfl, q0, gf⟩ := z
      obtain ⟨LR_fault, rfl, b_LR_fault⟩ := q0
      have z := all2_cons gf
      clear gf
      obtain ⟨v0, fs, rfl, q0, gf⟩ := z
      cases (q0 : v0 = .inr (some (.inl 4)))
      cases fs with
      | cons _ _ => exact gf.elim
      | nil =>
        have z := all2_cons hh
        clear hh
        obtain ⟨e0, h, rfl, g0, hh⟩ := z
        rcases e0 with ⟨t0, n0, f0⟩ | ⟨ci, fs⟩
        · exact g0.elim
        obtain ⟨rfl, gf⟩ := g0
        have z := all2_cons gf
        clear gf
        obtain ⟨v0, fs, rfl, q0, gf⟩ := z
        cases (q0 : v0 = .inr (some (.inl 5)))
        have z := all2_cons gf
        clear gf
        obtain ⟨v0, fs, rfl, q0, gf⟩ := z
        cases (q0 : v0 = .inr (some (.inl 6)))
        have z := all2_cons gf
        clear gf
        obtain ⟨v0, fs, rfl, q0, gf⟩ := z
        cases (q0 : v0 = .inr (some (.inl 7)))
        have z := all2_cons gf
        clear gf
        obtain ⟨v0, fs, rfl, q0, gf⟩ := z
        cases (q0 : v0 = .inr (some (.inl 8)))
        have z := all2_cons gf
        clear gf
        obtain ⟨v0, fs, rfl, q0, gf⟩ := z
        cases (q0 : v0 = .inr (some (.inl 9)))
        have z := all2_cons gf
        clear gf
        obtain ⟨v0, fs, rfl, q0, gf⟩ := z
        cases (q0 : v0 = .inr (some (.inl 10)))
        have z := all2_cons gf
        clear gf
        obtain ⟨v0, fs, rfl, q0, gf⟩ := z
        obtain ⟨Spare_rules, rfl, b_Spare_rules⟩ := q0
        have z := all2_cons gf
        clear gf
        obtain ⟨v0, fs, rfl, q0, gf⟩ := z
        obtain ⟨Spare_steps, rfl, b_Spare_steps⟩ := q0
        have z := all2_cons gf
        clear gf
        obtain ⟨v0, fs, rfl, q0, gf⟩ := z
        obtain ⟨Spare_waiting, rfl, b_Spare_waiting⟩ := q0
        have z := all2_cons gf
        clear gf
        obtain ⟨v0, fs, rfl, q0, gf⟩ := z
        obtain ⟨Spare_refused, rfl, b_Spare_refused⟩ := q0
        cases fs with
        | cons _ _ => exact gf.elim
        | nil =>
          have z := all2_cons hh
          clear hh
          obtain ⟨e1, h, rfl, g1, hh⟩ := z
          rcases e1 with ⟨t1, n1, Spare_kind⟩ | ⟨ci, fs⟩
          rotate_left
          · exact g1.elim
          obtain ⟨et, en, b_Spare_kind⟩ := g1
          cases (et : t1 = 0)
          cases en
          have z := all2_cons hh
          clear hh
          obtain ⟨e1, h, rfl, g1, hh⟩ := z
          rcases e1 with ⟨t1, n1, Spare_worthAt⟩ | ⟨ci, fs⟩
          rotate_left
          · exact g1.elim
          obtain ⟨et, en, b_Spare_worthAt⟩ := g1
          cases (et : t1 = 0)
          cases en
          have z := all2_cons hh
          clear hh
          obtain ⟨e1, h, rfl, g1, hh⟩ := z
          rcases e1 with ⟨t1, n1, Spare_testAt⟩ | ⟨ci, fs⟩
          rotate_left
          · exact g1.elim
          obtain ⟨et, en, b_Spare_testAt⟩ := g1
          cases (et : t1 = 0)
          cases en
          have z := all2_cons hh
          clear hh
          obtain ⟨e1, h, rfl, g1, hh⟩ := z
          rcases e1 with ⟨t1, n1, Spare_step⟩ | ⟨ci, fs⟩
          rotate_left
          · exact g1.elim
          obtain ⟨et, en, b_Spare_step⟩ := g1
          cases (et : t1 = 0)
          cases en
          have z := all2_cons hh
          clear hh
          obtain ⟨e1, h, rfl, g1, hh⟩ := z
          rcases e1 with ⟨t1, n1, Spare_beside⟩ | ⟨ci, fs⟩
          rotate_left
          · exact g1.elim
          obtain ⟨et, en, b_Spare_beside⟩ := g1
          cases (et : t1 = 0)
          cases en
          have z := all2_cons hh
          clear hh
          obtain ⟨e1, h, rfl, g1, hh⟩ := z
          rcases e1 with ⟨t1, n1, Spare_stack⟩ | ⟨ci, fs⟩
          rotate_left
          · exact g1.elim
          obtain ⟨et, en, b_Spare_stack⟩ := g1
          cases (et : t1 = 0)
          cases en
          cases h with
          | cons _ _ => exact hh.elim
          | nil =>
            obtain ⟨s, hs, rfl⟩ := rng_n (x := Tape_size) (k := 260) (by omega) b_Tape_size.2
            have es := sz_n (c := s) (by omega)
            obtain ⟨rF, eF⟩ := rg_x rfl b_Tape_bytes
            refine (c_X11_law_S (o := ob (decA (τ 250))) (n := n) (t := s) h1.1 (by omega) hs (by omega) (fun i hi => ob_ok (by omega) (eF i (by omega)) (rF i (by omega)))).mono (fun r h' hp => ?_)
            obtain ⟨y, K1, K2, K3, f1, f2, ru, at_, ah, fa, sp, hy, hru, hsp, rfl, (⟨w, rfl⟩ | ⟨w, rfl⟩)⟩ := hp
            · exact ⟨y, rfl, hy, Or.inl ⟨w, ⟨⟨rfl, rfl, rfl, rfl, rfl, rfl, rfl, rfl, rfl, rfl, rfl, rfl, rfl, rfl, rfl, gT_mk rfl e_HS_wasKept b_HS_wasKept, trivial⟩, ⟨rfl, rfl, ⟨0, rfl, by decide, by decide⟩, trivial⟩, ⟨rfl, rfl, b_Tape_bytes⟩, ⟨rfl, rfl, topA_ok _, topA_ok _, topA_ok _, topA_ok _, rfl, trivial⟩, ⟨rfl, rfl, rfl, rfl, rfl, rfl, rfl, ⟨_, rfl, hru⟩, ⟨_, rfl, hsp⟩, ⟨_, rfl, b_Spare_waiting⟩, ⟨_, rfl, b_Spare_refused⟩, trivial⟩, ⟨rfl, rfl, of_rg rg_top⟩, ⟨rfl, rfl, of_rg rg_top⟩, ⟨rfl, rfl, of_rg rg_top⟩, ⟨rfl, rfl, of_rg rg_top⟩, ⟨rfl, rfl, of_rg rg_top⟩, ⟨rfl, rfl, b_Spare_stack⟩, trivial⟩⟩⟩
            · exact ⟨y, rfl, hy, Or.inr ⟨w, ⟨⟨rfl, rfl, rfl, rfl, rfl, rfl, rfl, rfl, rfl, rfl, rfl, rfl, rfl, rfl, rfl, gT_mk rfl e_HS_wasKept b_HS_wasKept, trivial⟩, ⟨rfl, rfl, ⟨0, rfl, by decide, by decide⟩, trivial⟩, ⟨rfl, rfl, b_Tape_bytes⟩, ⟨rfl, rfl, topA_ok _, topA_ok _, topA_ok _, topA_ok _, rfl, trivial⟩, ⟨rfl, rfl, rfl, rfl, rfl, rfl, rfl, ⟨_, rfl, hru⟩, ⟨_, rfl, hsp⟩, ⟨_, rfl, b_Spare_waiting⟩, ⟨_, rfl, b_Spare_refused⟩, trivial⟩, ⟨rfl, rfl, of_rg rg_top⟩, ⟨rfl, rfl, of_rg rg_top⟩, ⟨rfl, rfl, of_rg rg_top⟩, ⟨rfl, rfl, of_rg rg_top⟩, ⟨rfl, rfl, of_rg rg_top⟩, ⟨rfl, rfl, b_Spare_stack⟩, trivial⟩⟩⟩

def HX_law60C_R : List AC := hc_184fcc0916
def HY_law60C_R : List AC := hc_302ce35a21
def HZ_law60C_R : List AC := hc_deaa03670c
set_option maxRecDepth 100000 in
theorem x_law60C_R {l : Launch} {n : Nat} (h1 : 1 ≤ n ∧ n ≤ 60) : conOkY (MetP l 103 yX11_law cX11_law 4 (some .int) 0 0) [nI n] HX_law60C_R HY_law60C_R HZ_law60C_R (fun τ y => lwY (ob (decA (τ 250))) n y) := by
  intro τ hΦ h hh
  have z := all2_cons hh
  clear hh
  obtain ⟨e0, h, rfl, g0, hh⟩ := z
  rcases e0 with ⟨t0, n0, f0⟩ | ⟨ci, fs⟩
  · exact g0.elim
  obtain ⟨rfl, gf⟩ := g0
  have z := all2_cons gf
  clear gf
  obtain ⟨v0, fs, rfl, q0, gf⟩ := z
  cases (q0 : v0 = .inr (some (.inl 1)))
  have z := all2_cons gf
  clear gf
  obtain ⟨v0, fs, rfl, q0, gf⟩ := z
  cases gT_r (τ := τ) (t := 0) (v := v0) rfl q0
  have z := all2_cons gf
  clear gf
  obtain ⟨v0, fs, rfl, q0, gf⟩ := z
  cases gT_r (τ := τ) (t := 1) (v := v0) rfl q0
  have z := all2_cons gf
  clear gf
  obtain ⟨v0, fs, rfl, q0, gf⟩ := z
  cases gT_r (τ := τ) (t := 2) (v := v0) rfl q0
  have z := all2_cons gf
  clear gf
  obtain ⟨v0, fs, rfl, q0, gf⟩ := z
  cases gT_r (τ := τ) (t := 3) (v := v0) rfl q0
  have z := all2_cons gf
  clear gf
  obtain ⟨v0, fs, rfl, q0, gf⟩ := z
  cases gT_r (τ := τ) (t := 4) (v := v0) rfl q0
  have z := all2_cons gf
  clear gf
  obtain ⟨v0, fs, rfl, q0, gf⟩ := z
  cases gT_r (τ := τ) (t := 5) (v := v0) rfl q0
  have z := all2_cons gf
  clear gf
  obtain ⟨v0, fs, rfl, q0, gf⟩ := z
  cases gT_r (τ := τ) (t := 6) (v := v0) rfl q0
  have z := all2_cons gf
  clear gf
  obtain ⟨v0, fs, rfl, q0, gf⟩ := z
  cases gT_r (τ := τ) (t := 7) (v := v0) rfl q0
  have z := all2_cons gf
  clear gf
  obtain ⟨v0, fs, rfl, q0, gf⟩ := z
  cases gT_r (τ := τ) (t := 8) (v := v0) rfl q0
  have z := all2_cons gf
  clear gf
  obtain ⟨v0, fs, rfl, q0, gf⟩ := z
  cases (q0 : v0 = .inr (some (.inl 3)))
  have z := all2_cons gf
  clear gf
  obtain ⟨v0, fs, rfl, q0, gf⟩ := z
  cases gT_r (τ := τ) (t := 9) (v := v0) rfl q0
  have z := all2_cons gf
  clear gf
  obtain ⟨v0, fs, rfl, q0, gf⟩ := z
  cases gT_r (τ := τ) (t := 10) (v := v0) rfl q0
  have z := all2_cons gf
  clear gf
  obtain ⟨v0, fs, rfl, q0, gf⟩ := z
  cases (q0 : v0 = .inr (some (.inl 4)))
  have z := all2_cons gf
  clear gf
  obtain ⟨v0, fs, rfl, q0, gf⟩ := z
  obtain ⟨HS_wasKept, rfl, e_HS_wasKept, b_HS_wasKept⟩ := gT_x (τ := τ) (t := 201) (v := v0) rfl q0
  cases fs with
  | cons _ _ => exact gf.elim
  | nil =>
    have z := all2_cons hh
    clear hh
    obtain ⟨e0, h, rfl, g0, hh⟩ := z
    rcases e0 with ⟨t0, n0, f0⟩ | ⟨ci, fs⟩
    · exact g0.elim
    obtain ⟨rfl, gf⟩ := g0
    have z := all2_cons gf
    clear gf
    obtain ⟨v0, fs, rfl, q0, gf⟩ := z
    cases (q0 : v0 = .inr (some (.inl 2)))
    have z := all2_cons gf
    clear gf
    obtain ⟨v0, fs, rfl, q0, gf⟩ := z
    obtain ⟨Tape_size, rfl, b_Tape_size⟩ := q0
    cases fs with
    | cons _ _ => exact gf.elim
    | nil =>
      have z := all2_cons hh
      clear hh
      obtain ⟨e1, h, rfl, g1, hh⟩ := z
      rcases e1 with ⟨t1, n1, Tape_bytes⟩ | ⟨ci, fs⟩
      rotate_left
      · exact g1.elim
      obtain ⟨et, en, b_Tape_bytes⟩ := g1
      cases (et : t1 = 0)
      cases en
      have z := all2_cons hh
      clear hh
      obtain ⟨e0, h, rfl, g0, hh⟩ := z
      rcases e0 with ⟨t0, n0, f0⟩ | ⟨ci, fs⟩
      · exact g0.elim
      obtain ⟨rfl, gf⟩ := g0
      have z := all2_cons gf
      clear gf
      obtain ⟨v0, fs, rfl, q0, gf⟩ := z
      cases (q0 : v0 = .inr (some (.inl 2)))
      have z := all2_cons gf
      clear gf
      obtain ⟨v0, fs, rfl, q0, gf⟩ := z
      obtain ⟨LR_end, rfl, b_LR_end⟩ := q0
      have z := all2_cons gf
      clear gf
      obtain ⟨v0, fs, rfl, q0, gf⟩ := z
      obtain ⟨LR_at, rfl, b_LR_at⟩ := q0
      have z := all2_cons gf
      clear gf
      obtain ⟨v0, fs, rfl, q0, gf⟩ := z
      obtain ⟨LR_ahead, rfl, b_LR_ahead⟩ := q0
      have z := all2_cons gf
      clear gf
      obtain ⟨v0, fs, rfl, q0, gf⟩ := z
      obtain ⟨LR_fault, rfl, b_LR_fault⟩ := q0
      have z := all2_cons gf
      clear gf
      obtain ⟨v0, fs, rfl, q0, gf⟩ := z
      cases gT_r (τ := τ) (t := 10) (v := v0) rfl q0
      cases fs with
      | cons _ _ => exact gf.elim
      | nil =>
        have z := all2_cons hh
        clear hh
        obtain ⟨e0, h, rfl, g0, hh⟩ := z
        rcases e0 with ⟨t0, n0, f0⟩ | ⟨ci, fs⟩
        · exact g0.elim
        obtain ⟨rfl, gf⟩ := g0
        have z := all2_cons gf
        clear gf
        obtain ⟨v0, fs, rfl, q0, gf⟩ := z
        cases (q0 : v0 = .inr (some (.inl 5)))
        have z := all2_cons gf
        clear gf
        obtain ⟨v0, fs, rfl, q0, gf⟩ := z
        cases (q0 : v0 = .inr (some (.inl 6)))
        have z := all2_cons gf
        clear gf
        obtain ⟨v0, fs, rfl, q0, gf⟩ := z
        cases (q0 : v0 = .inr (some (.inl 7)))
        have z := all2_cons gf
        clear gf
        obtain ⟨v0, fs, rfl, q0, gf⟩ := z
        cases (q0 : v0 = .inr (some (.inl 8)))
        have z := all2_cons gf
        clear gf
        obtain ⟨v0, fs, rfl, q0, gf⟩ := z
        cases (q0 : v0 = .inr (some (.inl 9)))
        have z := all2_cons gf
        clear gf
        obtain ⟨v0, fs, rfl, q0, gf⟩ := z
        cases (q0 : v0 = .inr (some (.inl 10)))
        have z := all2_cons gf
        clear gf
        obtain ⟨v0, fs, rfl, q0, gf⟩ := z
        obtain ⟨Spare_rules, rfl, b_Spare_rules⟩ := q0
        have z := all2_cons gf
        clear gf
        obtain ⟨v0, fs, rfl, q0, gf⟩ := z
        obtain ⟨Spare_steps, rfl, b_Spare_steps⟩ := q0
        have z := all2_cons gf
        clear gf
        obtain ⟨v0, fs, rfl, q0, gf⟩ := z
        obtain ⟨Spare_waiting, rfl, b_Spare_waiting⟩ := q0
        have z := all2_cons gf
        clear gf
        obtain ⟨v0, fs, rfl, q0, gf⟩ := z
        obtain ⟨Spare_refused, rfl, b_Spare_refused⟩ := q0
        cases fs with
        | cons _ _ => exact gf.elim
        | nil =>
          have z := all2_cons hh
          clear hh
          obtain ⟨e1, h, rfl, g1, hh⟩ := z
          rcases e1 with ⟨t1, n1, Spare_kind⟩ | ⟨ci, fs⟩
          rotate_left
          · exact g1.elim
          obtain ⟨et, en, b_Spare_kind⟩ := g1
          cases (et : t1 = 0)
          cases en
          have z := all2_cons hh
          clear hh
          obtain ⟨e1, h, rfl, g1, hh⟩ := z
          rcases e1 with ⟨t1, n1, Spare_worthAt⟩ | ⟨ci, fs⟩
          rotate_left
          · exact g1.elim
          obtain ⟨et, en, b_Spare_worthAt⟩ := g1
          cases (et : t1 = 0)
          cases en
          have z := all2_cons hh
          clear hh
          obtain ⟨e1, h, rfl, g1, hh⟩ := z
          rcases e1 with ⟨t1, n1, Spare_testAt⟩ | ⟨ci, fs⟩
          rotate_left
          · exact g1.elim
          obtain ⟨et, en, b_Spare_testAt⟩ := g1
          cases (et : t1 = 0)
          cases en
          have z := all2_cons hh
          clear hh
          obtain ⟨e1, h, rfl, g1, hh⟩ := z
          rcases e1 with ⟨t1, n1, Spare_step⟩ | ⟨ci, fs⟩
          rotate_left
          · exact g1.elim
          obtain ⟨et, en, b_Spare_step⟩ := g1
          cases (et : t1 = 0)
          cases en
          have z := all2_cons hh
          clear hh
          obtain ⟨e1, h, rfl, g1, hh⟩ := z
          rcases e1 with ⟨t1, n1, Spare_beside⟩ | ⟨ci, fs⟩
          rotate_left
          · exact g1.elim
          obtain ⟨et, en, b_Spare_beside⟩ := g1
          cases (et : t1 = 0)
          cases en
          have z := all2_cons hh
          clear hh
          obtain ⟨e1, h, rfl, g1, hh⟩ := z
          rcases e1 with ⟨t1, n1, Spare_stack⟩ | ⟨ci, fs⟩
          rotate_left
          · exact g1.elim
          obtain ⟨et, en, b_Spare_stack⟩ := g1
          cases (et : t1 = 0)
          cases en
          cases h with
          | cons _ _ => exact hh.elim
          | nil =>
            obtain ⟨s, hs, rfl⟩ := rng_n (x := Tape_size) (k := 260) (by omega) b_Tape_size.2
            have es := sz_n (c := s) (by omega)
            obtain ⟨rF, eF⟩ := rg_x rfl b_Tape_bytes
            refine (c_X11_law_R (o := ob (decA (τ 250))) (n := n) (t := s) h1.1 (by omega) hs (by omega) (fun i hi => ob_ok (by omega) (eF i (by omega)) (rF i (by omega)))).mono (fun r h' hp => ?_)
            obtain ⟨y, K1, K2, K3, f1, f2, ru, at_, ah, fa, sp, hy, hru, hsp, rfl, (⟨w, rfl⟩ | ⟨w, rfl⟩)⟩ := hp
            · exact ⟨y, rfl, hy, Or.inl ⟨w, ⟨⟨rfl, rfl, rfl, rfl, rfl, rfl, rfl, rfl, rfl, rfl, rfl, rfl, rfl, rfl, rfl, gT_mk rfl e_HS_wasKept b_HS_wasKept, trivial⟩, ⟨rfl, rfl, ⟨0, rfl, by decide, by decide⟩, trivial⟩, ⟨rfl, rfl, b_Tape_bytes⟩, ⟨rfl, rfl, topA_ok _, topA_ok _, topA_ok _, topA_ok _, rfl, trivial⟩, ⟨rfl, rfl, rfl, rfl, rfl, rfl, rfl, ⟨_, rfl, hru⟩, ⟨_, rfl, hsp⟩, ⟨_, rfl, b_Spare_waiting⟩, ⟨_, rfl, b_Spare_refused⟩, trivial⟩, ⟨rfl, rfl, of_rg rg_top⟩, ⟨rfl, rfl, of_rg rg_top⟩, ⟨rfl, rfl, of_rg rg_top⟩, ⟨rfl, rfl, of_rg rg_top⟩, ⟨rfl, rfl, of_rg rg_top⟩, ⟨rfl, rfl, b_Spare_stack⟩, trivial⟩⟩⟩
            · exact ⟨y, rfl, hy, Or.inr ⟨w, ⟨⟨rfl, rfl, rfl, rfl, rfl, rfl, rfl, rfl, rfl, rfl, rfl, rfl, rfl, rfl, rfl, gT_mk rfl e_HS_wasKept b_HS_wasKept, trivial⟩, ⟨rfl, rfl, ⟨0, rfl, by decide, by decide⟩, trivial⟩, ⟨rfl, rfl, b_Tape_bytes⟩, ⟨rfl, rfl, topA_ok _, topA_ok _, topA_ok _, topA_ok _, rfl, trivial⟩, ⟨rfl, rfl, rfl, rfl, rfl, rfl, rfl, ⟨_, rfl, hru⟩, ⟨_, rfl, hsp⟩, ⟨_, rfl, b_Spare_waiting⟩, ⟨_, rfl, b_Spare_refused⟩, trivial⟩, ⟨rfl, rfl, of_rg rg_top⟩, ⟨rfl, rfl, of_rg rg_top⟩, ⟨rfl, rfl, of_rg rg_top⟩, ⟨rfl, rfl, of_rg rg_top⟩, ⟨rfl, rfl, of_rg rg_top⟩, ⟨rfl, rfl, b_Spare_stack⟩, trivial⟩⟩⟩

def HX_law80C_S : List AC := hc_a226295a31
def HY_law80C_S : List AC := hc_302ce35a21
def HZ_law80C_S : List AC := hc_deaa03670c
set_option maxRecDepth 100000 in
theorem x_law80C_S {l : Launch} {n : Nat} (h1 : 1 ≤ n ∧ n ≤ 80) : conOkY (MetP l 103 yX11_law cX11_law 4 (some .int) 0 0) [nI n] HX_law80C_S HY_law80C_S HZ_law80C_S (fun τ y => lwY (ob (decA (τ 250))) n y) := by
  intro τ hΦ h hh
  have z := all2_cons hh
  clear hh
  obtain ⟨e0, h, rfl, g0, hh⟩ := z
  rcases e0 with ⟨t0, n0, f0⟩ | ⟨ci, fs⟩
  · exact g0.elim
  obtain ⟨rfl, gf⟩ := g0
  have z := all2_cons gf
  clear gf
  obtain ⟨v0, fs, rfl, q0, gf⟩ := z
  cases (q0 : v0 = .inr (some (.inl 1)))
  have z := all2_cons gf
  clear gf
  obtain ⟨v0, fs, rfl, q0, gf⟩ := z
  cases gT_r (τ := τ) (t := 0) (v := v0) rfl q0
  have z := all2_cons gf
  clear gf
  obtain ⟨v0, fs, rfl, q0, gf⟩ := z
  cases gT_r (τ := τ) (t := 1) (v := v0) rfl q0
  have z := all2_cons gf
  clear gf
  obtain ⟨v0, fs, rfl, q0, gf⟩ := z
  cases gT_r (τ := τ) (t := 2) (v := v0) rfl q0
  have z := all2_cons gf
  clear gf
  obtain ⟨v0, fs, rfl, q0, gf⟩ := z
  cases gT_r (τ := τ) (t := 3) (v := v0) rfl q0
  have z := all2_cons gf
  clear gf
  obtain ⟨v0, fs, rfl, q0, gf⟩ := z
  cases gT_r (τ := τ) (t := 4) (v := v0) rfl q0
  have z := all2_cons gf
  clear gf
  obtain ⟨v0, fs, rfl, q0, gf⟩ := z
  cases gT_r (τ := τ) (t := 5) (v := v0) rfl q0
  have z := all2_cons gf
  clear gf
  obtain ⟨v0, fs, rfl, q0, gf⟩ := z
  cases gT_r (τ := τ) (t := 6) (v := v0) rfl q0
  have z := all2_cons gf
  clear gf
  obtain ⟨v0, fs, rfl, q0, gf⟩ := z
  cases gT_r (τ := τ) (t := 7) (v := v0) rfl q0
  have z := all2_cons gf
  clear gf
  obtain ⟨v0, fs, rfl, q0, gf⟩ := z
  cases gT_r (τ := τ) (t := 8) (v := v0) rfl q0
  have z := all2_cons gf
  clear gf
  obtain ⟨v0, fs, rfl, q0, gf⟩ := z
  cases (q0 : v0 = .inr (some (.inl 3)))
  have z := all2_cons gf
  clear gf
  obtain ⟨v0, fs, rfl, q0, gf⟩ := z
  cases gT_r (τ := τ) (t := 9) (v := v0) rfl q0
  have z := all2_cons gf
  clear gf
  obtain ⟨v0, fs, rfl, q0, gf⟩ := z
  cases gT_r (τ := τ) (t := 10) (v := v0) rfl q0
  have z := all2_cons gf
  clear gf
  obtain ⟨v0, fs, rfl, q0, gf⟩ := z
  cases (q0 : v0 = .inr (some (.inl 4)))
  have z := all2_cons gf
  clear gf
  obtain ⟨v0, fs, rfl, q0, gf⟩ := z
  obtain ⟨HS_wasKept, rfl, e_HS_wasKept, b_HS_wasKept⟩ := gT_x (τ := τ) (t := 201) (v := v0) rfl q0
  cases fs with
  | cons _ _ => exact gf.elim
  | nil =>
    have z := all2_cons hh
    clear hh
    obtain ⟨e0, h, rfl, g0, hh⟩ := z
    rcases e0 with ⟨t0, n0, f0⟩ | ⟨ci, fs⟩
    · exact g0.elim
    obtain ⟨rfl, gf⟩ := g0
    have z := all2_cons gf
    clear gf
    obtain ⟨v0, fs, rfl, q0, gf⟩ := z
    cases (q0 : v0 = .inr (some (.inl 2)))
    have z := all2_cons gf
    clear gf
    obtain ⟨v0, fs, rfl, q0, gf⟩ := z
    obtain ⟨Tape_size, rfl, b_Tape_size⟩ := q0
    cases fs with
    | cons _ _ => exact gf.elim
    | nil =>
      have z := all2_cons hh
      clear hh
      obtain ⟨e1, h, rfl, g1, hh⟩ := z
      rcases e1 with ⟨t1, n1, Tape_bytes⟩ | ⟨ci, fs⟩
      rotate_left
      · exact g1.elim
      obtain ⟨et, en, b_Tape_bytes⟩ := g1
      cases (et : t1 = 0)
      cases en
      have z := all2_cons hh
      clear hh
      obtain ⟨e0, h, rfl, g0, hh⟩ := z
      rcases e0 with ⟨t0, n0, f0⟩ | ⟨ci, fs⟩
      · exact g0.elim
      obtain ⟨rfl, gf⟩ := g0
      have z := all2_cons gf
      clear gf
      obtain ⟨v0, fs, rfl, q0, gf⟩ := z
      cases (q0 : v0 = .inr (some (.inl 2)))
      have z := all2_cons gf
      clear gf
      obtain ⟨v0, fs, rfl, q0, gf⟩ := z
      obtain ⟨LR_end, rfl, b_LR_end⟩ := q0
      have z := all2_cons gf
      clear gf
      obtain ⟨v0, fs, rfl, q0, gf⟩ := z
      obtain ⟨LR_at, rfl, b_LR_at⟩ := q0
      have z := all2_cons gf
      clear gf
      obtain ⟨v0, fs, rfl, q0, gf⟩ := z
      obtain ⟨LR_ahead, rfl, b_LR_ahead⟩ := q0
      have z := all2_cons gf
      clear gf
      obtain ⟨v0, fs, rfl, q0, gf⟩ := z
      obtain ⟨LR_fault, rfl, b_LR_fault⟩ := q0
      have z := all2_cons gf
      clear gf
      obtain ⟨v0, fs, rfl, q0, gf⟩ := z
      cases (q0 : v0 = .inr (some (.inl 4)))
      cases fs with
      | cons _ _ => exact gf.elim
      | nil =>
        have z := all2_cons hh
        clear hh
        obtain ⟨e0, h, rfl, g0, hh⟩ := z
        rcases e0 with ⟨t0, n0, f0⟩ | ⟨ci, fs⟩
        · exact g0.elim
        obtain ⟨rfl, gf⟩ := g0
        have z := all2_cons gf
        clear gf
        obtain ⟨v0, fs, rfl, q0, gf⟩ := z
        cases (q0 : v0 = .inr (some (.inl 5)))
        have z := all2_cons gf
        clear gf
        obtain ⟨v0, fs, rfl, q0, gf⟩ := z
        cases (q0 : v0 = .inr (some (.inl 6)))
        have z := all2_cons gf
        clear gf
        obtain ⟨v0, fs, rfl, q0, gf⟩ := z
        cases (q0 : v0 = .inr (some (.inl 7)))
        have z := all2_cons gf
        clear gf
        obtain ⟨v0, fs, rfl, q0, gf⟩ := z
        cases (q0 : v0 = .inr (some (.inl 8)))
        have z := all2_cons gf
        clear gf
        obtain ⟨v0, fs, rfl, q0, gf⟩ := z
        cases (q0 : v0 = .inr (some (.inl 9)))
        have z := all2_cons gf
        clear gf
        obtain ⟨v0, fs, rfl, q0, gf⟩ := z
        cases (q0 : v0 = .inr (some (.inl 10)))
        have z := all2_cons gf
        clear gf
        obtain ⟨v0, fs, rfl, q0, gf⟩ := z
        obtain ⟨Spare_rules, rfl, b_Spare_rules⟩ := q0
        have z := all2_cons gf
        clear gf
        obtain ⟨v0, fs, rfl, q0, gf⟩ := z
        obtain ⟨Spare_steps, rfl, b_Spare_steps⟩ := q0
        have z := all2_cons gf
        clear gf
        obtain ⟨v0, fs, rfl, q0, gf⟩ := z
        obtain ⟨Spare_waiting, rfl, b_Spare_waiting⟩ := q0
        have z := all2_cons gf
        clear gf
        obtain ⟨v0, fs, rfl, q0, gf⟩ := z
        obtain ⟨Spare_refused, rfl, b_Spare_refused⟩ := q0
        cases fs with
        | cons _ _ => exact gf.elim
        | nil =>
          have z := all2_cons hh
          clear hh
          obtain ⟨e1, h, rfl, g1, hh⟩ := z
          rcases e1 with ⟨t1, n1, Spare_kind⟩ | ⟨ci, fs⟩
          rotate_left
          · exact g1.elim
          obtain ⟨et, en, b_Spare_kind⟩ := g1
          cases (et : t1 = 0)
          cases en
          have z := all2_cons hh
          clear hh
          obtain ⟨e1, h, rfl, g1, hh⟩ := z
          rcases e1 with ⟨t1, n1, Spare_worthAt⟩ | ⟨ci, fs⟩
          rotate_left
          · exact g1.elim
          obtain ⟨et, en, b_Spare_worthAt⟩ := g1
          cases (et : t1 = 0)
          cases en
          have z := all2_cons hh
          clear hh
          obtain ⟨e1, h, rfl, g1, hh⟩ := z
          rcases e1 with ⟨t1, n1, Spare_testAt⟩ | ⟨ci, fs⟩
          rotate_left
          · exact g1.elim
          obtain ⟨et, en, b_Spare_testAt⟩ := g1
          cases (et : t1 = 0)
          cases en
          have z := all2_cons hh
          clear hh
          obtain ⟨e1, h, rfl, g1, hh⟩ := z
          rcases e1 with ⟨t1, n1, Spare_step⟩ | ⟨ci, fs⟩
          rotate_left
          · exact g1.elim
          obtain ⟨et, en, b_Spare_step⟩ := g1
          cases (et : t1 = 0)
          cases en
          have z := all2_cons hh
          clear hh
          obtain ⟨e1, h, rfl, g1, hh⟩ := z
          rcases e1 with ⟨t1, n1, Spare_beside⟩ | ⟨ci, fs⟩
          rotate_left
          · exact g1.elim
          obtain ⟨et, en, b_Spare_beside⟩ := g1
          cases (et : t1 = 0)
          cases en
          have z := all2_cons hh
          clear hh
          obtain ⟨e1, h, rfl, g1, hh⟩ := z
          rcases e1 with ⟨t1, n1, Spare_stack⟩ | ⟨ci, fs⟩
          rotate_left
          · exact g1.elim
          obtain ⟨et, en, b_Spare_stack⟩ := g1
          cases (et : t1 = 0)
          cases en
          cases h with
          | cons _ _ => exact hh.elim
          | nil =>
            obtain ⟨s, hs, rfl⟩ := rng_n (x := Tape_size) (k := 260) (by omega) b_Tape_size.2
            have es := sz_n (c := s) (by omega)
            obtain ⟨rF, eF⟩ := rg_x rfl b_Tape_bytes
            refine (c_X11_law_S (o := ob (decA (τ 250))) (n := n) (t := s) h1.1 (by omega) hs (by omega) (fun i hi => ob_ok (by omega) (eF i (by omega)) (rF i (by omega)))).mono (fun r h' hp => ?_)
            obtain ⟨y, K1, K2, K3, f1, f2, ru, at_, ah, fa, sp, hy, hru, hsp, rfl, (⟨w, rfl⟩ | ⟨w, rfl⟩)⟩ := hp
            · exact ⟨y, rfl, hy, Or.inl ⟨w, ⟨⟨rfl, rfl, rfl, rfl, rfl, rfl, rfl, rfl, rfl, rfl, rfl, rfl, rfl, rfl, rfl, gT_mk rfl e_HS_wasKept b_HS_wasKept, trivial⟩, ⟨rfl, rfl, ⟨0, rfl, by decide, by decide⟩, trivial⟩, ⟨rfl, rfl, b_Tape_bytes⟩, ⟨rfl, rfl, topA_ok _, topA_ok _, topA_ok _, topA_ok _, rfl, trivial⟩, ⟨rfl, rfl, rfl, rfl, rfl, rfl, rfl, ⟨_, rfl, hru⟩, ⟨_, rfl, hsp⟩, ⟨_, rfl, b_Spare_waiting⟩, ⟨_, rfl, b_Spare_refused⟩, trivial⟩, ⟨rfl, rfl, of_rg rg_top⟩, ⟨rfl, rfl, of_rg rg_top⟩, ⟨rfl, rfl, of_rg rg_top⟩, ⟨rfl, rfl, of_rg rg_top⟩, ⟨rfl, rfl, of_rg rg_top⟩, ⟨rfl, rfl, b_Spare_stack⟩, trivial⟩⟩⟩
            · exact ⟨y, rfl, hy, Or.inr ⟨w, ⟨⟨rfl, rfl, rfl, rfl, rfl, rfl, rfl, rfl, rfl, rfl, rfl, rfl, rfl, rfl, rfl, gT_mk rfl e_HS_wasKept b_HS_wasKept, trivial⟩, ⟨rfl, rfl, ⟨0, rfl, by decide, by decide⟩, trivial⟩, ⟨rfl, rfl, b_Tape_bytes⟩, ⟨rfl, rfl, topA_ok _, topA_ok _, topA_ok _, topA_ok _, rfl, trivial⟩, ⟨rfl, rfl, rfl, rfl, rfl, rfl, rfl, ⟨_, rfl, hru⟩, ⟨_, rfl, hsp⟩, ⟨_, rfl, b_Spare_waiting⟩, ⟨_, rfl, b_Spare_refused⟩, trivial⟩, ⟨rfl, rfl, of_rg rg_top⟩, ⟨rfl, rfl, of_rg rg_top⟩, ⟨rfl, rfl, of_rg rg_top⟩, ⟨rfl, rfl, of_rg rg_top⟩, ⟨rfl, rfl, of_rg rg_top⟩, ⟨rfl, rfl, b_Spare_stack⟩, trivial⟩⟩⟩

def HX_law80C_R : List AC := hc_70c7ee59c1
def HY_law80C_R : List AC := hc_302ce35a21
def HZ_law80C_R : List AC := hc_deaa03670c
set_option maxRecDepth 100000 in
theorem x_law80C_R {l : Launch} {n : Nat} (h1 : 1 ≤ n ∧ n ≤ 80) : conOkY (MetP l 103 yX11_law cX11_law 4 (some .int) 0 0) [nI n] HX_law80C_R HY_law80C_R HZ_law80C_R (fun τ y => lwY (ob (decA (τ 250))) n y) := by
  intro τ hΦ h hh
  have z := all2_cons hh
  clear hh
  obtain ⟨e0, h, rfl, g0, hh⟩ := z
  rcases e0 with ⟨t0, n0, f0⟩ | ⟨ci, fs⟩
  · exact g0.elim
  obtain ⟨rfl, gf⟩ := g0
  have z := all2_cons gf
  clear gf
  obtain ⟨v0, fs, rfl, q0, gf⟩ := z
  cases (q0 : v0 = .inr (some (.inl 1)))
  have z := all2_cons gf
  clear gf
  obtain ⟨v0, fs, rfl, q0, gf⟩ := z
  cases gT_r (τ := τ) (t := 0) (v := v0) rfl q0
  have z := all2_cons gf
  clear gf
  obtain ⟨v0, fs, rfl, q0, gf⟩ := z
  cases gT_r (τ := τ) (t := 1) (v := v0) rfl q0
  have z := all2_cons gf
  clear gf
  obtain ⟨v0, fs, rfl, q0, gf⟩ := z
  cases gT_r (τ := τ) (t := 2) (v := v0) rfl q0
  have z := all2_cons gf
  clear gf
  obtain ⟨v0, fs, rfl, q0, gf⟩ := z
  cases gT_r (τ := τ) (t := 3) (v := v0) rfl q0
  have z := all2_cons gf
  clear gf
  obtain ⟨v0, fs, rfl, q0, gf⟩ := z
  cases gT_r (τ := τ) (t := 4) (v := v0) rfl q0
  have z := all2_cons gf
  clear gf
  obtain ⟨v0, fs, rfl, q0, gf⟩ := z
  cases gT_r (τ := τ) (t := 5) (v := v0) rfl q0
  have z := all2_cons gf
  clear gf
  obtain ⟨v0, fs, rfl, q0, gf⟩ := z
  cases gT_r (τ := τ) (t := 6) (v := v0) rfl q0
  have z := all2_cons gf
  clear gf
  obtain ⟨v0, fs, rfl, q0, gf⟩ := z
  cases gT_r (τ := τ) (t := 7) (v := v0) rfl q0
  have z := all2_cons gf
  clear gf
  obtain ⟨v0, fs, rfl, q0, gf⟩ := z
  cases gT_r (τ := τ) (t := 8) (v := v0) rfl q0
  have z := all2_cons gf
  clear gf
  obtain ⟨v0, fs, rfl, q0, gf⟩ := z
  cases (q0 : v0 = .inr (some (.inl 3)))
  have z := all2_cons gf
  clear gf
  obtain ⟨v0, fs, rfl, q0, gf⟩ := z
  cases gT_r (τ := τ) (t := 9) (v := v0) rfl q0
  have z := all2_cons gf
  clear gf
  obtain ⟨v0, fs, rfl, q0, gf⟩ := z
  cases gT_r (τ := τ) (t := 10) (v := v0) rfl q0
  have z := all2_cons gf
  clear gf
  obtain ⟨v0, fs, rfl, q0, gf⟩ := z
  cases (q0 : v0 = .inr (some (.inl 4)))
  have z := all2_cons gf
  clear gf
  obtain ⟨v0, fs, rfl, q0, gf⟩ := z
  obtain ⟨HS_wasKept, rfl, e_HS_wasKept, b_HS_wasKept⟩ := gT_x (τ := τ) (t := 201) (v := v0) rfl q0
  cases fs with
  | cons _ _ => exact gf.elim
  | nil =>
    have z := all2_cons hh
    clear hh
    obtain ⟨e0, h, rfl, g0, hh⟩ := z
    rcases e0 with ⟨t0, n0, f0⟩ | ⟨ci, fs⟩
    · exact g0.elim
    obtain ⟨rfl, gf⟩ := g0
    have z := all2_cons gf
    clear gf
    obtain ⟨v0, fs, rfl, q0, gf⟩ := z
    cases (q0 : v0 = .inr (some (.inl 2)))
    have z := all2_cons gf
    clear gf
    obtain ⟨v0, fs, rfl, q0, gf⟩ := z
    obtain ⟨Tape_size, rfl, b_Tape_size⟩ := q0
    cases fs with
    | cons _ _ => exact gf.elim
    | nil =>
      have z := all2_cons hh
      clear hh
      obtain ⟨e1, h, rfl, g1, hh⟩ := z
      rcases e1 with ⟨t1, n1, Tape_bytes⟩ | ⟨ci, fs⟩
      rotate_left
      · exact g1.elim
      obtain ⟨et, en, b_Tape_bytes⟩ := g1
      cases (et : t1 = 0)
      cases en
      have z := all2_cons hh
      clear hh
      obtain ⟨e0, h, rfl, g0, hh⟩ := z
      rcases e0 with ⟨t0, n0, f0⟩ | ⟨ci, fs⟩
      · exact g0.elim
      obtain ⟨rfl, gf⟩ := g0
      have z := all2_cons gf
      clear gf
      obtain ⟨v0, fs, rfl, q0, gf⟩ := z
      cases (q0 : v0 = .inr (some (.inl 2)))
      have z := all2_cons gf
      clear gf
      obtain ⟨v0, fs, rfl, q0, gf⟩ := z
      obtain ⟨LR_end, rfl, b_LR_end⟩ := q0
      have z := all2_cons gf
      clear gf
      obtain ⟨v0, fs, rfl, q0, gf⟩ := z
      obtain ⟨LR_at, rfl, b_LR_at⟩ := q0
      have z := all2_cons gf
      clear gf
      obtain ⟨v0, fs, rfl, q0, gf⟩ := z
      obtain ⟨LR_ahead, rfl, b_LR_ahead⟩ := q0
      have z := all2_cons gf
      clear gf
      obtain ⟨v0, fs, rfl, q0, gf⟩ := z
      obtain ⟨LR_fault, rfl, b_LR_fault⟩ := q0
      have z := all2_cons gf
      clear gf
      obtain ⟨v0, fs, rfl, q0, gf⟩ := z
      cases gT_r (τ := τ) (t := 10) (v := v0) rfl q0
      cases fs with
      | cons _ _ => exact gf.elim
      | nil =>
        have z := all2_cons hh
        clear hh
        obtain ⟨e0, h, rfl, g0, hh⟩ := z
        rcases e0 with ⟨t0, n0, f0⟩ | ⟨ci, fs⟩
        · exact g0.elim
        obtain ⟨rfl, gf⟩ := g0
        have z := all2_cons gf
        clear gf
        obtain ⟨v0, fs, rfl, q0, gf⟩ := z
        cases (q0 : v0 = .inr (some (.inl 5)))
        have z := all2_cons gf
        clear gf
        obtain ⟨v0, fs, rfl, q0, gf⟩ := z
        cases (q0 : v0 = .inr (some (.inl 6)))
        have z := all2_cons gf
        clear gf
        obtain ⟨v0, fs, rfl, q0, gf⟩ := z
        cases (q0 : v0 = .inr (some (.inl 7)))
        have z := all2_cons gf
        clear gf
        obtain ⟨v0, fs, rfl, q0, gf⟩ := z
        cases (q0 : v0 = .inr (some (.inl 8)))
        have z := all2_cons gf
        clear gf
        obtain ⟨v0, fs, rfl, q0, gf⟩ := z
        cases (q0 : v0 = .inr (some (.inl 9)))
        have z := all2_cons gf
        clear gf
        obtain ⟨v0, fs, rfl, q0, gf⟩ := z
        cases (q0 : v0 = .inr (some (.inl 10)))
        have z := all2_cons gf
        clear gf
        obtain ⟨v0, fs, rfl, q0, gf⟩ := z
        obtain ⟨Spare_rules, rfl, b_Spare_rules⟩ := q0
        have z := all2_cons gf
        clear gf
        obtain ⟨v0, fs, rfl, q0, gf⟩ := z
        obtain ⟨Spare_steps, rfl, b_Spare_steps⟩ := q0
        have z := all2_cons gf
        clear gf
        obtain ⟨v0, fs, rfl, q0, gf⟩ := z
        obtain ⟨Spare_waiting, rfl, b_Spare_waiting⟩ := q0
        have z := all2_cons gf
        clear gf
        obtain ⟨v0, fs, rfl, q0, gf⟩ := z
        obtain ⟨Spare_refused, rfl, b_Spare_refused⟩ := q0
        cases fs with
        | cons _ _ => exact gf.elim
        | nil =>
          have z := all2_cons hh
          clear hh
          obtain ⟨e1, h, rfl, g1, hh⟩ := z
          rcases e1 with ⟨t1, n1, Spare_kind⟩ | ⟨ci, fs⟩
          rotate_left
          · exact g1.elim
          obtain ⟨et, en, b_Spare_kind⟩ := g1
          cases (et : t1 = 0)
          cases en
          have z := all2_cons hh
          clear hh
          obtain ⟨e1, h, rfl, g1, hh⟩ := z
          rcases e1 with ⟨t1, n1, Spare_worthAt⟩ | ⟨ci, fs⟩
          rotate_left
          · exact g1.elim
          obtain ⟨et, en, b_Spare_worthAt⟩ := g1
          cases (et : t1 = 0)
          cases en
          have z := all2_cons hh
          clear hh
          obtain ⟨e1, h, rfl, g1, hh⟩ := z
          rcases e1 with ⟨t1, n1, Spare_testAt⟩ | ⟨ci, fs⟩
          rotate_left
          · exact g1.elim
          obtain ⟨et, en, b_Spare_testAt⟩ := g1
          cases (et : t1 = 0)
          cases en
          have z := all2_cons hh
          clear hh
          obtain ⟨e1, h, rfl, g1, hh⟩ := z
          rcases e1 with ⟨t1, n1, Spare_step⟩ | ⟨ci, fs⟩
          rotate_left
          · exact g1.elim
          obtain ⟨et, en, b_Spare_step⟩ := g1
          cases (et : t1 = 0)
          cases en
          have z := all2_cons hh
          clear hh
          obtain ⟨e1, h, rfl, g1, hh⟩ := z
          rcases e1 with ⟨t1, n1, Spare_beside⟩ | ⟨ci, fs⟩
          rotate_left
          · exact g1.elim
          obtain ⟨et, en, b_Spare_beside⟩ := g1
          cases (et : t1 = 0)
          cases en
          have z := all2_cons hh
          clear hh
          obtain ⟨e1, h, rfl, g1, hh⟩ := z
          rcases e1 with ⟨t1, n1, Spare_stack⟩ | ⟨ci, fs⟩
          rotate_left
          · exact g1.elim
          obtain ⟨et, en, b_Spare_stack⟩ := g1
          cases (et : t1 = 0)
          cases en
          cases h with
          | cons _ _ => exact hh.elim
          | nil =>
            obtain ⟨s, hs, rfl⟩ := rng_n (x := Tape_size) (k := 260) (by omega) b_Tape_size.2
            have es := sz_n (c := s) (by omega)
            obtain ⟨rF, eF⟩ := rg_x rfl b_Tape_bytes
            refine (c_X11_law_R (o := ob (decA (τ 250))) (n := n) (t := s) h1.1 (by omega) hs (by omega) (fun i hi => ob_ok (by omega) (eF i (by omega)) (rF i (by omega)))).mono (fun r h' hp => ?_)
            obtain ⟨y, K1, K2, K3, f1, f2, ru, at_, ah, fa, sp, hy, hru, hsp, rfl, (⟨w, rfl⟩ | ⟨w, rfl⟩)⟩ := hp
            · exact ⟨y, rfl, hy, Or.inl ⟨w, ⟨⟨rfl, rfl, rfl, rfl, rfl, rfl, rfl, rfl, rfl, rfl, rfl, rfl, rfl, rfl, rfl, gT_mk rfl e_HS_wasKept b_HS_wasKept, trivial⟩, ⟨rfl, rfl, ⟨0, rfl, by decide, by decide⟩, trivial⟩, ⟨rfl, rfl, b_Tape_bytes⟩, ⟨rfl, rfl, topA_ok _, topA_ok _, topA_ok _, topA_ok _, rfl, trivial⟩, ⟨rfl, rfl, rfl, rfl, rfl, rfl, rfl, ⟨_, rfl, hru⟩, ⟨_, rfl, hsp⟩, ⟨_, rfl, b_Spare_waiting⟩, ⟨_, rfl, b_Spare_refused⟩, trivial⟩, ⟨rfl, rfl, of_rg rg_top⟩, ⟨rfl, rfl, of_rg rg_top⟩, ⟨rfl, rfl, of_rg rg_top⟩, ⟨rfl, rfl, of_rg rg_top⟩, ⟨rfl, rfl, of_rg rg_top⟩, ⟨rfl, rfl, b_Spare_stack⟩, trivial⟩⟩⟩
            · exact ⟨y, rfl, hy, Or.inr ⟨w, ⟨⟨rfl, rfl, rfl, rfl, rfl, rfl, rfl, rfl, rfl, rfl, rfl, rfl, rfl, rfl, rfl, gT_mk rfl e_HS_wasKept b_HS_wasKept, trivial⟩, ⟨rfl, rfl, ⟨0, rfl, by decide, by decide⟩, trivial⟩, ⟨rfl, rfl, b_Tape_bytes⟩, ⟨rfl, rfl, topA_ok _, topA_ok _, topA_ok _, topA_ok _, rfl, trivial⟩, ⟨rfl, rfl, rfl, rfl, rfl, rfl, rfl, ⟨_, rfl, hru⟩, ⟨_, rfl, hsp⟩, ⟨_, rfl, b_Spare_waiting⟩, ⟨_, rfl, b_Spare_refused⟩, trivial⟩, ⟨rfl, rfl, of_rg rg_top⟩, ⟨rfl, rfl, of_rg rg_top⟩, ⟨rfl, rfl, of_rg rg_top⟩, ⟨rfl, rfl, of_rg rg_top⟩, ⟨rfl, rfl, of_rg rg_top⟩, ⟨rfl, rfl, b_Spare_stack⟩, trivial⟩⟩⟩

def HX_law100C_S : List AC := hc_7aaef679b3
def HY_law100C_S : List AC := hc_302ce35a21
def HZ_law100C_S : List AC := hc_deaa03670c
set_option maxRecDepth 100000 in
theorem x_law100C_S {l : Launch} {n : Nat} (h1 : 1 ≤ n ∧ n ≤ 100) : conOkY (MetP l 103 yX11_law cX11_law 4 (some .int) 0 0) [nI n] HX_law100C_S HY_law100C_S HZ_law100C_S (fun τ y => lwY (ob (decA (τ 250))) n y) := by
  intro τ hΦ h hh
  have z := all2_cons hh
  clear hh
  obtain ⟨e0, h, rfl, g0, hh⟩ := z
  rcases e0 with ⟨t0, n0, f0⟩ | ⟨ci, fs⟩
  · exact g0.elim
  obtain ⟨rfl, gf⟩ := g0
  have z := all2_cons gf
  clear gf
  obtain ⟨v0, fs, rfl, q0, gf⟩ := z
  cases (q0 : v0 = .inr (some (.inl 1)))
  have z := all2_cons gf
  clear gf
  obtain ⟨v0, fs, rfl, q0, gf⟩ := z
  cases gT_r (τ := τ) (t := 0) (v := v0) rfl q0
  have z := all2_cons gf
  clear gf
  obtain ⟨v0, fs, rfl, q0, gf⟩ := z
  cases gT_r (τ := τ) (t := 1) (v := v0) rfl q0
  have z := all2_cons gf
  clear gf
  obtain ⟨v0, fs, rfl, q0, gf⟩ := z
  cases gT_r (τ := τ) (t := 2) (v := v0) rfl q0
  have z := all2_cons gf
  clear gf
  obtain ⟨v0, fs, rfl, q0, gf⟩ := z
  cases gT_r (τ := τ) (t := 3) (v := v0) rfl q0
  have z := all2_cons gf
  clear gf
  obtain ⟨v0, fs, rfl, q0, gf⟩ := z
  cases gT_r (τ := τ) (t := 4) (v := v0) rfl q0
  have z := all2_cons gf
  clear gf
  obtain ⟨v0, fs, rfl, q0, gf⟩ := z
  cases gT_r (τ := τ) (t := 5) (v := v0) rfl q0
  have z := all2_cons gf
  clear gf
  obtain ⟨v0, fs, rfl, q0, gf⟩ := z
  cases gT_r (τ := τ) (t := 6) (v := v0) rfl q0
  have z := all2_cons gf
  clear gf
  obtain ⟨v0, fs, rfl, q0, gf⟩ := z
  cases gT_r (τ := τ) (t := 7) (v := v0) rfl q0
  have z := all2_cons gf
  clear gf
  obtain ⟨v0, fs, rfl, q0, gf⟩ := z
  cases gT_r (τ := τ) (t := 8) (v := v0) rfl q0
  have z := all2_cons gf
  clear gf
  obtain ⟨v0, fs, rfl, q0, gf⟩ := z
  cases (q0 : v0 = .inr (some (.inl 3)))
  have z := all2_cons gf
  clear gf
  obtain ⟨v0, fs, rfl, q0, gf⟩ := z
  cases gT_r (τ := τ) (t := 9) (v := v0) rfl q0
  have z := all2_cons gf
  clear gf
  obtain ⟨v0, fs, rfl, q0, gf⟩ := z
  cases gT_r (τ := τ) (t := 10) (v := v0) rfl q0
  have z := all2_cons gf
  clear gf
  obtain ⟨v0, fs, rfl, q0, gf⟩ := z
  cases (q0 : v0 = .inr (some (.inl 4)))
  have z := all2_cons gf
  clear gf
  obtain ⟨v0, fs, rfl, q0, gf⟩ := z
  obtain ⟨HS_wasKept, rfl, e_HS_wasKept, b_HS_wasKept⟩ := gT_x (τ := τ) (t := 201) (v := v0) rfl q0
  cases fs with
  | cons _ _ => exact gf.elim
  | nil =>
    have z := all2_cons hh
    clear hh
    obtain ⟨e0, h, rfl, g0, hh⟩ := z
    rcases e0 with ⟨t0, n0, f0⟩ | ⟨ci, fs⟩
    · exact g0.elim
    obtain ⟨rfl, gf⟩ := g0
    have z := all2_cons gf
    clear gf
    obtain ⟨v0, fs, rfl, q0, gf⟩ := z
    cases (q0 : v0 = .inr (some (.inl 2)))
    have z := all2_cons gf
    clear gf
    obtain ⟨v0, fs, rfl, q0, gf⟩ := z
    obtain ⟨Tape_size, rfl, b_Tape_size⟩ := q0
    cases fs with
    | cons _ _ => exact gf.elim
    | nil =>
      have z := all2_cons hh
      clear hh
      obtain ⟨e1, h, rfl, g1, hh⟩ := z
      rcases e1 with ⟨t1, n1, Tape_bytes⟩ | ⟨ci, fs⟩
      rotate_left
      · exact g1.elim
      obtain ⟨et, en, b_Tape_bytes⟩ := g1
      cases (et : t1 = 0)
      cases en
      have z := all2_cons hh
      clear hh
      obtain ⟨e0, h, rfl, g0, hh⟩ := z
      rcases e0 with ⟨t0, n0, f0⟩ | ⟨ci, fs⟩
      · exact g0.elim
      obtain ⟨rfl, gf⟩ := g0
      have z := all2_cons gf
      clear gf
      obtain ⟨v0, fs, rfl, q0, gf⟩ := z
      cases (q0 : v0 = .inr (some (.inl 2)))
      have z := all2_cons gf
      clear gf
      obtain ⟨v0, fs, rfl, q0, gf⟩ := z
      obtain ⟨LR_end, rfl, b_LR_end⟩ := q0
      have z := all2_cons gf
      clear gf
      obtain ⟨v0, fs, rfl, q0, gf⟩ := z
      obtain ⟨LR_at, rfl, b_LR_at⟩ := q0
      have z := all2_cons gf
      clear gf
      obtain ⟨v0, fs, rfl, q0, gf⟩ := z
      obtain ⟨LR_ahead, rfl, b_LR_ahead⟩ := q0
      have z := all2_cons gf
      clear gf
      obtain ⟨v0, fs, rfl, q0, gf⟩ := z
      obtain ⟨LR_fault, rfl, b_LR_fault⟩ := q0
      have z := all2_cons gf
      clear gf
      obtain ⟨v0, fs, rfl, q0, gf⟩ := z
      cases (q0 : v0 = .inr (some (.inl 4)))
      cases fs with
      | cons _ _ => exact gf.elim
      | nil =>
        have z := all2_cons hh
        clear hh
        obtain ⟨e0, h, rfl, g0, hh⟩ := z
        rcases e0 with ⟨t0, n0, f0⟩ | ⟨ci, fs⟩
        · exact g0.elim
        obtain ⟨rfl, gf⟩ := g0
        have z := all2_cons gf
        clear gf
        obtain ⟨v0, fs, rfl, q0, gf⟩ := z
        cases (q0 : v0 = .inr (some (.inl 5)))
        have z := all2_cons gf
        clear gf
        obtain ⟨v0, fs, rfl, q0, gf⟩ := z
        cases (q0 : v0 = .inr (some (.inl 6)))
        have z := all2_cons gf
        clear gf
        obtain ⟨v0, fs, rfl, q0, gf⟩ := z
        cases (q0 : v0 = .inr (some (.inl 7)))
        have z := all2_cons gf
        clear gf
        obtain ⟨v0, fs, rfl, q0, gf⟩ := z
        cases (q0 : v0 = .inr (some (.inl 8)))
        have z := all2_cons gf
        clear gf
        obtain ⟨v0, fs, rfl, q0, gf⟩ := z
        cases (q0 : v0 = .inr (some (.inl 9)))
        have z := all2_cons gf
        clear gf
        obtain ⟨v0, fs, rfl, q0, gf⟩ := z
        cases (q0 : v0 = .inr (some (.inl 10)))
        have z := all2_cons gf
        clear gf
        obtain ⟨v0, fs, rfl, q0, gf⟩ := z
        obtain ⟨Spare_rules, rfl, b_Spare_rules⟩ := q0
        have z := all2_cons gf
        clear gf
        obtain ⟨v0, fs, rfl, q0, gf⟩ := z
        obtain ⟨Spare_steps, rfl, b_Spare_steps⟩ := q0
        have z := all2_cons gf
        clear gf
        obtain ⟨v0, fs, rfl, q0, gf⟩ := z
        obtain ⟨Spare_waiting, rfl, b_Spare_waiting⟩ := q0
        have z := all2_cons gf
        clear gf
        obtain ⟨v0, fs, rfl, q0, gf⟩ := z
        obtain ⟨Spare_refused, rfl, b_Spare_refused⟩ := q0
        cases fs with
        | cons _ _ => exact gf.elim
        | nil =>
          have z := all2_cons hh
          clear hh
          obtain ⟨e1, h, rfl, g1, hh⟩ := z
          rcases e1 with ⟨t1, n1, Spare_kind⟩ | ⟨ci, fs⟩
          rotate_left
          · exact g1.elim
          obtain ⟨et, en, b_Spare_kind⟩ := g1
          cases (et : t1 = 0)
          cases en
          have z := all2_cons hh
          clear hh
          obtain ⟨e1, h, rfl, g1, hh⟩ := z
          rcases e1 with ⟨t1, n1, Spare_worthAt⟩ | ⟨ci, fs⟩
          rotate_left
          · exact g1.elim
          obtain ⟨et, en, b_Spare_worthAt⟩ := g1
          cases (et : t1 = 0)
          cases en
          have z := all2_cons hh
          clear hh
          obtain ⟨e1, h, rfl, g1, hh⟩ := z
          rcases e1 with ⟨t1, n1, Spare_testAt⟩ | ⟨ci, fs⟩
          rotate_left
          · exact g1.elim
          obtain ⟨et, en, b_Spare_testAt⟩ := g1
          cases (et : t1 = 0)
          cases en
          have z := all2_cons hh
          clear hh
          obtain ⟨e1, h, rfl, g1, hh⟩ := z
          rcases e1 with ⟨t1, n1, Spare_step⟩ | ⟨ci, fs⟩
          rotate_left
          · exact g1.elim
          obtain ⟨et, en, b_Spare_step⟩ := g1
          cases (et : t1 = 0)
          cases en
          have z := all2_cons hh
          clear hh
          obtain ⟨e1, h, rfl, g1, hh⟩ := z
          rcases e1 with ⟨t1, n1, Spare_beside⟩ | ⟨ci, fs⟩
          rotate_left
          · exact g1.elim
          obtain ⟨et, en, b_Spare_beside⟩ := g1
          cases (et : t1 = 0)
          cases en
          have z := all2_cons hh
          clear hh
          obtain ⟨e1, h, rfl, g1, hh⟩ := z
          rcases e1 with ⟨t1, n1, Spare_stack⟩ | ⟨ci, fs⟩
          rotate_left
          · exact g1.elim
          obtain ⟨et, en, b_Spare_stack⟩ := g1
          cases (et : t1 = 0)
          cases en
          cases h with
          | cons _ _ => exact hh.elim
          | nil =>
            obtain ⟨s, hs, rfl⟩ := rng_n (x := Tape_size) (k := 260) (by omega) b_Tape_size.2
            have es := sz_n (c := s) (by omega)
            obtain ⟨rF, eF⟩ := rg_x rfl b_Tape_bytes
            refine (c_X11_law_S (o := ob (decA (τ 250))) (n := n) (t := s) h1.1 (by omega) hs (by omega) (fun i hi => ob_ok (by omega) (eF i (by omega)) (rF i (by omega)))).mono (fun r h' hp => ?_)
            obtain ⟨y, K1, K2, K3, f1, f2, ru, at_, ah, fa, sp, hy, hru, hsp, rfl, (⟨w, rfl⟩ | ⟨w, rfl⟩)⟩ := hp
            · exact ⟨y, rfl, hy, Or.inl ⟨w, ⟨⟨rfl, rfl, rfl, rfl, rfl, rfl, rfl, rfl, rfl, rfl, rfl, rfl, rfl, rfl, rfl, gT_mk rfl e_HS_wasKept b_HS_wasKept, trivial⟩, ⟨rfl, rfl, ⟨0, rfl, by decide, by decide⟩, trivial⟩, ⟨rfl, rfl, b_Tape_bytes⟩, ⟨rfl, rfl, topA_ok _, topA_ok _, topA_ok _, topA_ok _, rfl, trivial⟩, ⟨rfl, rfl, rfl, rfl, rfl, rfl, rfl, ⟨_, rfl, hru⟩, ⟨_, rfl, hsp⟩, ⟨_, rfl, b_Spare_waiting⟩, ⟨_, rfl, b_Spare_refused⟩, trivial⟩, ⟨rfl, rfl, of_rg rg_top⟩, ⟨rfl, rfl, of_rg rg_top⟩, ⟨rfl, rfl, of_rg rg_top⟩, ⟨rfl, rfl, of_rg rg_top⟩, ⟨rfl, rfl, of_rg rg_top⟩, ⟨rfl, rfl, b_Spare_stack⟩, trivial⟩⟩⟩
            · exact ⟨y, rfl, hy, Or.inr ⟨w, ⟨⟨rfl, rfl, rfl, rfl, rfl, rfl, rfl, rfl, rfl, rfl, rfl, rfl, rfl, rfl, rfl, gT_mk rfl e_HS_wasKept b_HS_wasKept, trivial⟩, ⟨rfl, rfl, ⟨0, rfl, by decide, by decide⟩, trivial⟩, ⟨rfl, rfl, b_Tape_bytes⟩, ⟨rfl, rfl, topA_ok _, topA_ok _, topA_ok _, topA_ok _, rfl, trivial⟩, ⟨rfl, rfl, rfl, rfl, rfl, rfl, rfl, ⟨_, rfl, hru⟩, ⟨_, rfl, hsp⟩, ⟨_, rfl, b_Spare_waiting⟩, ⟨_, rfl, b_Spare_refused⟩, trivial⟩, ⟨rfl, rfl, of_rg rg_top⟩, ⟨rfl, rfl, of_rg rg_top⟩, ⟨rfl, rfl, of_rg rg_top⟩, ⟨rfl, rfl, of_rg rg_top⟩, ⟨rfl, rfl, of_rg rg_top⟩, ⟨rfl, rfl, b_Spare_stack⟩, trivial⟩⟩⟩

def HX_law100C_R : List AC := hc_5dd1c78341
def HY_law100C_R : List AC := hc_302ce35a21
def HZ_law100C_R : List AC := hc_deaa03670c
set_option maxRecDepth 100000 in
theorem x_law100C_R {l : Launch} {n : Nat} (h1 : 1 ≤ n ∧ n ≤ 100) : conOkY (MetP l 103 yX11_law cX11_law 4 (some .int) 0 0) [nI n] HX_law100C_R HY_law100C_R HZ_law100C_R (fun τ y => lwY (ob (decA (τ 250))) n y) := by
  intro τ hΦ h hh
  have z := all2_cons hh
  clear hh
  obtain ⟨e0, h, rfl, g0, hh⟩ := z
  rcases e0 with ⟨t0, n0, f0⟩ | ⟨ci, fs⟩
  · exact g0.elim
  obtain ⟨rfl, gf⟩ := g0
  have z := all2_cons gf
  clear gf
  obtain ⟨v0, fs, rfl, q0, gf⟩ := z
  cases (q0 : v0 = .inr (some (.inl 1)))
  have z := all2_cons gf
  clear gf
  obtain ⟨v0, fs, rfl, q0, gf⟩ := z
  cases gT_r (τ := τ) (t := 0) (v := v0) rfl q0
  have z := all2_cons gf
  clear gf
  obtain ⟨v0, fs, rfl, q0, gf⟩ := z
  cases gT_r (τ := τ) (t := 1) (v := v0) rfl q0
  have z := all2_cons gf
  clear gf
  obtain ⟨v0, fs, rfl, q0, gf⟩ := z
  cases gT_r (τ := τ) (t := 2) (v := v0) rfl q0
  have z := all2_cons gf
  clear gf
  obtain ⟨v0, fs, rfl, q0, gf⟩ := z
  cases gT_r (τ := τ) (t := 3) (v := v0) rfl q0
  have z := all2_cons gf
  clear gf
  obtain ⟨v0, fs, rfl, q0, gf⟩ := z
  cases gT_r (τ := τ) (t := 4) (v := v0) rfl q0
  have z := all2_cons gf
  clear gf
  obtain ⟨v0, fs, rfl, q0, gf⟩ := z
  cases gT_r (τ := τ) (t := 5) (v := v0) rfl q0
  have z := all2_cons gf
  clear gf
  obtain ⟨v0, fs, rfl, q0, gf⟩ := z
  cases gT_r (τ := τ) (t := 6) (v := v0) rfl q0
  have z := all2_cons gf
  clear gf
  obtain ⟨v0, fs, rfl, q0, gf⟩ := z
  cases gT_r (τ := τ) (t := 7) (v := v0) rfl q0
  have z := all2_cons gf
  clear gf
  obtain ⟨v0, fs, rfl, q0, gf⟩ := z
  cases gT_r (τ := τ) (t := 8) (v := v0) rfl q0
  have z := all2_cons gf
  clear gf
  obtain ⟨v0, fs, rfl, q0, gf⟩ := z
  cases (q0 : v0 = .inr (some (.inl 3)))
  have z := all2_cons gf
  clear gf
  obtain ⟨v0, fs, rfl, q0, gf⟩ := z
  cases gT_r (τ := τ) (t := 9) (v := v0) rfl q0
  have z := all2_cons gf
  clear gf
  obtain ⟨v0, fs, rfl, q0, gf⟩ := z
  cases gT_r (τ := τ) (t := 10) (v := v0) rfl q0
  have z := all2_cons gf
  clear gf
  obtain ⟨v0, fs, rfl, q0, gf⟩ := z
  cases (q0 : v0 = .inr (some (.inl 4)))
  have z := all2_cons gf
  clear gf
  obtain ⟨v0, fs, rfl, q0, gf⟩ := z
  obtain ⟨HS_wasKept, rfl, e_HS_wasKept, b_HS_wasKept⟩ := gT_x (τ := τ) (t := 201) (v := v0) rfl q0
  cases fs with
  | cons _ _ => exact gf.elim
  | nil =>
    have z := all2_cons hh
    clear hh
    obtain ⟨e0, h, rfl, g0, hh⟩ := z
    rcases e0 with ⟨t0, n0, f0⟩ | ⟨ci, fs⟩
    · exact g0.elim
    obtain ⟨rfl, gf⟩ := g0
    have z := all2_cons gf
    clear gf
    obtain ⟨v0, fs, rfl, q0, gf⟩ := z
    cases (q0 : v0 = .inr (some (.inl 2)))
    have z := all2_cons gf
    clear gf
    obtain ⟨v0, fs, rfl, q0, gf⟩ := z
    obtain ⟨Tape_size, rfl, b_Tape_size⟩ := q0
    cases fs with
    | cons _ _ => exact gf.elim
    | nil =>
      have z := all2_cons hh
      clear hh
      obtain ⟨e1, h, rfl, g1, hh⟩ := z
      rcases e1 with ⟨t1, n1, Tape_bytes⟩ | ⟨ci, fs⟩
      rotate_left
      · exact g1.elim
      obtain ⟨et, en, b_Tape_bytes⟩ := g1
      cases (et : t1 = 0)
      cases en
      have z := all2_cons hh
      clear hh
      obtain ⟨e0, h, rfl, g0, hh⟩ := z
      rcases e0 with ⟨t0, n0, f0⟩ | ⟨ci, fs⟩
      · exact g0.elim
      obtain ⟨rfl, gf⟩ := g0
      have z := all2_cons gf
      clear gf
      obtain ⟨v0, fs, rfl, q0, gf⟩ := z
      cases (q0 : v0 = .inr (some (.inl 2)))
      have z := all2_cons gf
      clear gf
      obtain ⟨v0, fs, rfl, q0, gf⟩ := z
      obtain ⟨LR_end, rfl, b_LR_end⟩ := q0
      have z := all2_cons gf
      clear gf
      obtain ⟨v0, fs, rfl, q0, gf⟩ := z
      obtain ⟨LR_at, rfl, b_LR_at⟩ := q0
      have z := all2_cons gf
      clear gf
      obtain ⟨v0, fs, rfl, q0, gf⟩ := z
      obtain ⟨LR_ahead, rfl, b_LR_ahead⟩ := q0
      have z := all2_cons gf
      clear gf
      obtain ⟨v0, fs, rfl, q0, gf⟩ := z
      obtain ⟨LR_fault, rfl, b_LR_fault⟩ := q0
      have z := all2_cons gf
      clear gf
      obtain ⟨v0, fs, rfl, q0, gf⟩ := z
      cases gT_r (τ := τ) (t := 10) (v := v0) rfl q0
      cases fs with
      | cons _ _ => exact gf.elim
      | nil =>
        have z := all2_cons hh
        clear hh
        obtain ⟨e0, h, rfl, g0, hh⟩ := z
        rcases e0 with ⟨t0, n0, f0⟩ | ⟨ci, fs⟩
        · exact g0.elim
        obtain ⟨rfl, gf⟩ := g0
        have z := all2_cons gf
        clear gf
        obtain ⟨v0, fs, rfl, q0, gf⟩ := z
        cases (q0 : v0 = .inr (some (.inl 5)))
        have z := all2_cons gf
        clear gf
        obtain ⟨v0, fs, rfl, q0, gf⟩ := z
        cases (q0 : v0 = .inr (some (.inl 6)))
        have z := all2_cons gf
        clear gf
        obtain ⟨v0, fs, rfl, q0, gf⟩ := z
        cases (q0 : v0 = .inr (some (.inl 7)))
        have z := all2_cons gf
        clear gf
        obtain ⟨v0, fs, rfl, q0, gf⟩ := z
        cases (q0 : v0 = .inr (some (.inl 8)))
        have z := all2_cons gf
        clear gf
        obtain ⟨v0, fs, rfl, q0, gf⟩ := z
        cases (q0 : v0 = .inr (some (.inl 9)))
        have z := all2_cons gf
        clear gf
        obtain ⟨v0, fs, rfl, q0, gf⟩ := z
        cases (q0 : v0 = .inr (some (.inl 10)))
        have z := all2_cons gf
        clear gf
        obtain ⟨v0, fs, rfl, q0, gf⟩ := z
        obtain ⟨Spare_rules, rfl, b_Spare_rules⟩ := q0
        have z := all2_cons gf
        clear gf
        obtain ⟨v0, fs, rfl, q0, gf⟩ := z
        obtain ⟨Spare_steps, rfl, b_Spare_steps⟩ := q0
        have z := all2_cons gf
        clear gf
        obtain ⟨v0, fs, rfl, q0, gf⟩ := z
        obtain ⟨Spare_waiting, rfl, b_Spare_waiting⟩ := q0
        have z := all2_cons gf
        clear gf
        obtain ⟨v0, fs, rfl, q0, gf⟩ := z
        obtain ⟨Spare_refused, rfl, b_Spare_refused⟩ := q0
        cases fs with
        | cons _ _ => exact gf.elim
        | nil =>
          have z := all2_cons hh
          clear hh
          obtain ⟨e1, h, rfl, g1, hh⟩ := z
          rcases e1 with ⟨t1, n1, Spare_kind⟩ | ⟨ci, fs⟩
          rotate_left
          · exact g1.elim
          obtain ⟨et, en, b_Spare_kind⟩ := g1
          cases (et : t1 = 0)
          cases en
          have z := all2_cons hh
          clear hh
          obtain ⟨e1, h, rfl, g1, hh⟩ := z
          rcases e1 with ⟨t1, n1, Spare_worthAt⟩ | ⟨ci, fs⟩
          rotate_left
          · exact g1.elim
          obtain ⟨et, en, b_Spare_worthAt⟩ := g1
          cases (et : t1 = 0)
          cases en
          have z := all2_cons hh
          clear hh
          obtain ⟨e1, h, rfl, g1, hh⟩ := z
          rcases e1 with ⟨t1, n1, Spare_testAt⟩ | ⟨ci, fs⟩
          rotate_left
          · exact g1.elim
          obtain ⟨et, en, b_Spare_testAt⟩ := g1
          cases (et : t1 = 0)
          cases en
          have z := all2_cons hh
          clear hh
          obtain ⟨e1, h, rfl, g1, hh⟩ := z
          rcases e1 with ⟨t1, n1, Spare_step⟩ | ⟨ci, fs⟩
          rotate_left
          · exact g1.elim
          obtain ⟨et, en, b_Spare_step⟩ := g1
          cases (et : t1 = 0)
          cases en
          have z := all2_cons hh
          clear hh
          obtain ⟨e1, h, rfl, g1, hh⟩ := z
          rcases e1 with ⟨t1, n1, Spare_beside⟩ | ⟨ci, fs⟩
          rotate_left
          · exact g1.elim
          obtain ⟨et, en, b_Spare_beside⟩ := g1
          cases (et : t1 = 0)
          cases en
          have z := all2_cons hh
          clear hh
          obtain ⟨e1, h, rfl, g1, hh⟩ := z
          rcases e1 with ⟨t1, n1, Spare_stack⟩ | ⟨ci, fs⟩
          rotate_left
          · exact g1.elim
          obtain ⟨et, en, b_Spare_stack⟩ := g1
          cases (et : t1 = 0)
          cases en
          cases h with
          | cons _ _ => exact hh.elim
          | nil =>
            obtain ⟨s, hs, rfl⟩ := rng_n (x := Tape_size) (k := 260) (by omega) b_Tape_size.2
            have es := sz_n (c := s) (by omega)
            obtain ⟨rF, eF⟩ := rg_x rfl b_Tape_bytes
            refine (c_X11_law_R (o := ob (decA (τ 250))) (n := n) (t := s) h1.1 (by omega) hs (by omega) (fun i hi => ob_ok (by omega) (eF i (by omega)) (rF i (by omega)))).mono (fun r h' hp => ?_)
            obtain ⟨y, K1, K2, K3, f1, f2, ru, at_, ah, fa, sp, hy, hru, hsp, rfl, (⟨w, rfl⟩ | ⟨w, rfl⟩)⟩ := hp
            · exact ⟨y, rfl, hy, Or.inl ⟨w, ⟨⟨rfl, rfl, rfl, rfl, rfl, rfl, rfl, rfl, rfl, rfl, rfl, rfl, rfl, rfl, rfl, gT_mk rfl e_HS_wasKept b_HS_wasKept, trivial⟩, ⟨rfl, rfl, ⟨0, rfl, by decide, by decide⟩, trivial⟩, ⟨rfl, rfl, b_Tape_bytes⟩, ⟨rfl, rfl, topA_ok _, topA_ok _, topA_ok _, topA_ok _, rfl, trivial⟩, ⟨rfl, rfl, rfl, rfl, rfl, rfl, rfl, ⟨_, rfl, hru⟩, ⟨_, rfl, hsp⟩, ⟨_, rfl, b_Spare_waiting⟩, ⟨_, rfl, b_Spare_refused⟩, trivial⟩, ⟨rfl, rfl, of_rg rg_top⟩, ⟨rfl, rfl, of_rg rg_top⟩, ⟨rfl, rfl, of_rg rg_top⟩, ⟨rfl, rfl, of_rg rg_top⟩, ⟨rfl, rfl, of_rg rg_top⟩, ⟨rfl, rfl, b_Spare_stack⟩, trivial⟩⟩⟩
            · exact ⟨y, rfl, hy, Or.inr ⟨w, ⟨⟨rfl, rfl, rfl, rfl, rfl, rfl, rfl, rfl, rfl, rfl, rfl, rfl, rfl, rfl, rfl, gT_mk rfl e_HS_wasKept b_HS_wasKept, trivial⟩, ⟨rfl, rfl, ⟨0, rfl, by decide, by decide⟩, trivial⟩, ⟨rfl, rfl, b_Tape_bytes⟩, ⟨rfl, rfl, topA_ok _, topA_ok _, topA_ok _, topA_ok _, rfl, trivial⟩, ⟨rfl, rfl, rfl, rfl, rfl, rfl, rfl, ⟨_, rfl, hru⟩, ⟨_, rfl, hsp⟩, ⟨_, rfl, b_Spare_waiting⟩, ⟨_, rfl, b_Spare_refused⟩, trivial⟩, ⟨rfl, rfl, of_rg rg_top⟩, ⟨rfl, rfl, of_rg rg_top⟩, ⟨rfl, rfl, of_rg rg_top⟩, ⟨rfl, rfl, of_rg rg_top⟩, ⟨rfl, rfl, of_rg rg_top⟩, ⟨rfl, rfl, b_Spare_stack⟩, trivial⟩⟩⟩

def HX_law120C_S : List AC := hc_13b3137a63
def HY_law120C_S : List AC := hc_302ce35a21
def HZ_law120C_S : List AC := hc_deaa03670c
set_option maxRecDepth 100000 in
theorem x_law120C_S {l : Launch} {n : Nat} (h1 : 1 ≤ n ∧ n ≤ 120) : conOkY (MetP l 103 yX11_law cX11_law 4 (some .int) 0 0) [nI n] HX_law120C_S HY_law120C_S HZ_law120C_S (fun τ y => lwY (ob (decA (τ 250))) n y) := by
  intro τ hΦ h hh
  have z := all2_cons hh
  clear hh
  obtain ⟨e0, h, rfl, g0, hh⟩ := z
  rcases e0 with ⟨t0, n0, f0⟩ | ⟨ci, fs⟩
  · exact g0.elim
  obtain ⟨rfl, gf⟩ := g0
  have z := all2_cons gf
  clear gf
  obtain ⟨v0, fs, rfl, q0, gf⟩ := z
  cases (q0 : v0 = .inr (some (.inl 1)))
  have z := all2_cons gf
  clear gf
  obtain ⟨v0, fs, rfl, q0, gf⟩ := z
  cases gT_r (τ := τ) (t := 0) (v := v0) rfl q0
  have z := all2_cons gf
  clear gf
  obtain ⟨v0, fs, rfl, q0, gf⟩ := z
  cases gT_r (τ := τ) (t := 1) (v := v0) rfl q0
  have z := all2_cons gf
  clear gf
  obtain ⟨v0, fs, rfl, q0, gf⟩ := z
  cases gT_r (τ := τ) (t := 2) (v := v0) rfl q0
  have z := all2_cons gf
  clear gf
  obtain ⟨v0, fs, rfl, q0, gf⟩ := z
  cases gT_r (τ := τ) (t := 3) (v := v0) rfl q0
  have z := all2_cons gf
  clear gf
  obtain ⟨v0, fs, rfl, q0, gf⟩ := z
  cases gT_r (τ := τ) (t := 4) (v := v0) rfl q0
  have z := all2_cons gf
  clear gf
  obtain ⟨v0, fs, rfl, q0, gf⟩ := z
  cases gT_r (τ := τ) (t := 5) (v := v0) rfl q0
  have z := all2_cons gf
  clear gf
  obtain ⟨v0, fs, rfl, q0, gf⟩ := z
  cases gT_r (τ := τ) (t := 6) (v := v0) rfl q0
  have z := all2_cons gf
  clear gf
  obtain ⟨v0, fs, rfl, q0, gf⟩ := z
  cases gT_r (τ := τ) (t := 7) (v := v0) rfl q0
  have z := all2_cons gf
  clear gf
  obtain ⟨v0, fs, rfl, q0, gf⟩ := z
  cases gT_r (τ := τ) (t := 8) (v := v0) rfl q0
  have z := all2_cons gf
  clear gf
  obtain ⟨v0, fs, rfl, q0, gf⟩ := z
  cases (q0 : v0 = .inr (some (.inl 3)))
  have z := all2_cons gf
  clear gf
  obtain ⟨v0, fs, rfl, q0, gf⟩ := z
  cases gT_r (τ := τ) (t := 9) (v := v0) rfl q0
  have z := all2_cons gf
  clear gf
  obtain ⟨v0, fs, rfl, q0, gf⟩ := z
  cases gT_r (τ := τ) (t := 10) (v := v0) rfl q0
  have z := all2_cons gf
  clear gf
  obtain ⟨v0, fs, rfl, q0, gf⟩ := z
  cases (q0 : v0 = .inr (some (.inl 4)))
  have z := all2_cons gf
  clear gf
  obtain ⟨v0, fs, rfl, q0, gf⟩ := z
  obtain ⟨HS_wasKept, rfl, e_HS_wasKept, b_HS_wasKept⟩ := gT_x (τ := τ) (t := 201) (v := v0) rfl q0
  cases fs with
  | cons _ _ => exact gf.elim
  | nil =>
    have z := all2_cons hh
    clear hh
    obtain ⟨e0, h, rfl, g0, hh⟩ := z
    rcases e0 with ⟨t0, n0, f0⟩ | ⟨ci, fs⟩
    · exact g0.elim
    obtain ⟨rfl, gf⟩ := g0
    have z := all2_cons gf
    clear gf
    obtain ⟨v0, fs, rfl, q0, gf⟩ := z
    cases (q0 : v0 = .inr (some (.inl 2)))
    have z := all2_cons gf
    clear gf
    obtain ⟨v0, fs, rfl, q0, gf⟩ := z
    obtain ⟨Tape_size, rfl, b_Tape_size⟩ := q0
    cases fs with
    | cons _ _ => exact gf.elim
    | nil =>
      have z := all2_cons hh
      clear hh
      obtain ⟨e1, h, rfl, g1, hh⟩ := z
      rcases e1 with ⟨t1, n1, Tape_bytes⟩ | ⟨ci, fs⟩
      rotate_left
      · exact g1.elim
      obtain ⟨et, en, b_Tape_bytes⟩ := g1
      cases (et : t1 = 0)
      cases en
      have z := all2_cons hh
      clear hh
      obtain ⟨e0, h, rfl, g0, hh⟩ := z
      rcases e0 with ⟨t0, n0, f0⟩ | ⟨ci, fs⟩
      · exact g0.elim
      obtain ⟨rfl, gf⟩ := g0
      have z := all2_cons gf
      clear gf
      obtain ⟨v0, fs, rfl, q0, gf⟩ := z
      cases (q0 : v0 = .inr (some (.inl 2)))
      have z := all2_cons gf
      clear gf
      obtain ⟨v0, fs, rfl, q0, gf⟩ := z
      obtain ⟨LR_end, rfl, b_LR_end⟩ := q0
      have z := all2_cons gf
      clear gf
      obtain ⟨v0, fs, rfl, q0, gf⟩ := z
      obtain ⟨LR_at, rfl, b_LR_at⟩ := q0
      have z := all2_cons gf
      clear gf
      obtain ⟨v0, fs, rfl, q0, gf⟩ := z
      obtain ⟨LR_ahead, rfl, b_LR_ahead⟩ := q0
      have z := all2_cons gf
      clear gf
      obtain ⟨v0, fs, rfl, q0, gf⟩ := z
      obtain ⟨LR_fault, rfl, b_LR_fault⟩ := q0
      have z := all2_cons gf
      clear gf
      obtain ⟨v0, fs, rfl, q0, gf⟩ := z
      cases (q0 : v0 = .inr (some (.inl 4)))
      cases fs with
      | cons _ _ => exact gf.elim
      | nil =>
        have z := all2_cons hh
        clear hh
        obtain ⟨e0, h, rfl, g0, hh⟩ := z
        rcases e0 with ⟨t0, n0, f0⟩ | ⟨ci, fs⟩
        · exact g0.elim
        obtain ⟨rfl, gf⟩ := g0
        have z := all2_cons gf
        clear gf
        obtain ⟨v0, fs, rfl, q0, gf⟩ := z
        cases (q0 : v0 = .inr (some (.inl 5)))
        have z := all2_cons gf
        clear gf
        obtain ⟨v0, fs, rfl, q0, gf⟩ := z
        cases (q0 : v0 = .inr (some (.inl 6)))
        have z := all2_cons gf
        clear gf
        obtain ⟨v0, fs, rfl, q0, gf⟩ := z
        cases (q0 : v0 = .inr (some (.inl 7)))
        have z := all2_cons gf
        clear gf
        obtain ⟨v0, fs, rfl, q0, gf⟩ := z
        cases (q0 : v0 = .inr (some (.inl 8)))
        have z := all2_cons gf
        clear gf
        obtain ⟨v0, fs, rfl, q0, gf⟩ := z
        cases (q0 : v0 = .inr (some (.inl 9)))
        have z := all2_cons gf
        clear gf
        obtain ⟨v0, fs, rfl, q0, gf⟩ := z
        cases (q0 : v0 = .inr (some (.inl 10)))
        have z := all2_cons gf
        clear gf
        obtain ⟨v0, fs, rfl, q0, gf⟩ := z
        obtain ⟨Spare_rules, rfl, b_Spare_rules⟩ := q0
        have z := all2_cons gf
        clear gf
        obtain ⟨v0, fs, rfl, q0, gf⟩ := z
        obtain ⟨Spare_steps, rfl, b_Spare_steps⟩ := q0
        have z := all2_cons gf
        clear gf
        obtain ⟨v0, fs, rfl, q0, gf⟩ := z
        obtain ⟨Spare_waiting, rfl, b_Spare_waiting⟩ := q0
        have z := all2_cons gf
        clear gf
        obtain ⟨v0, fs, rfl, q0, gf⟩ := z
        obtain ⟨Spare_refused, rfl, b_Spare_refused⟩ := q0
        cases fs with
        | cons _ _ => exact gf.elim
        | nil =>
          have z := all2_cons hh
          clear hh
          obtain ⟨e1, h, rfl, g1, hh⟩ := z
          rcases e1 with ⟨t1, n1, Spare_kind⟩ | ⟨ci, fs⟩
          rotate_left
          · exact g1.elim
          obtain ⟨et, en, b_Spare_kind⟩ := g1
          cases (et : t1 = 0)
          cases en
          have z := all2_cons hh
          clear hh
          obtain ⟨e1, h, rfl, g1, hh⟩ := z
          rcases e1 with ⟨t1, n1, Spare_worthAt⟩ | ⟨ci, fs⟩
          rotate_left
          · exact g1.elim
          obtain ⟨et, en, b_Spare_worthAt⟩ := g1
          cases (et : t1 = 0)
          cases en
          have z := all2_cons hh
          clear hh
          obtain ⟨e1, h, rfl, g1, hh⟩ := z
          rcases e1 with ⟨t1, n1, Spare_testAt⟩ | ⟨ci, fs⟩
          rotate_left
          · exact g1.elim
          obtain ⟨et, en, b_Spare_testAt⟩ := g1
          cases (et : t1 = 0)
          cases en
          have z := all2_cons hh
          clear hh
          obtain ⟨e1, h, rfl, g1, hh⟩ := z
          rcases e1 with ⟨t1, n1, Spare_step⟩ | ⟨ci, fs⟩
          rotate_left
          · exact g1.elim
          obtain ⟨et, en, b_Spare_step⟩ := g1
          cases (et : t1 = 0)
          cases en
          have z := all2_cons hh
          clear hh
          obtain ⟨e1, h, rfl, g1, hh⟩ := z
          rcases e1 with ⟨t1, n1, Spare_beside⟩ | ⟨ci, fs⟩
          rotate_left
          · exact g1.elim
          obtain ⟨et, en, b_Spare_beside⟩ := g1
          cases (et : t1 = 0)
          cases en
          have z := all2_cons hh
          clear hh
          obtain ⟨e1, h, rfl, g1, hh⟩ := z
          rcases e1 with ⟨t1, n1, Spare_stack⟩ | ⟨ci, fs⟩
          rotate_left
          · exact g1.elim
          obtain ⟨et, en, b_Spare_stack⟩ := g1
          cases (et : t1 = 0)
          cases en
          cases h with
          | cons _ _ => exact hh.elim
          | nil =>
            obtain ⟨s, hs, rfl⟩ := rng_n (x := Tape_size) (k := 260) (by omega) b_Tape_size.2
            have es := sz_n (c := s) (by omega)
            obtain ⟨rF, eF⟩ := rg_x rfl b_Tape_bytes
            refine (c_X11_law_S (o := ob (decA (τ 250))) (n := n) (t := s) h1.1 (by omega) hs (by omega) (fun i hi => ob_ok (by omega) (eF i (by omega)) (rF i (by omega)))).mono (fun r h' hp => ?_)
            obtain ⟨y, K1, K2, K3, f1, f2, ru, at_, ah, fa, sp, hy, hru, hsp, rfl, (⟨w, rfl⟩ | ⟨w, rfl⟩)⟩ := hp
            · exact ⟨y, rfl, hy, Or.inl ⟨w, ⟨⟨rfl, rfl, rfl, rfl, rfl, rfl, rfl, rfl, rfl, rfl, rfl, rfl, rfl, rfl, rfl, gT_mk rfl e_HS_wasKept b_HS_wasKept, trivial⟩, ⟨rfl, rfl, ⟨0, rfl, by decide, by decide⟩, trivial⟩, ⟨rfl, rfl, b_Tape_bytes⟩, ⟨rfl, rfl, topA_ok _, topA_ok _, topA_ok _, topA_ok _, rfl, trivial⟩, ⟨rfl, rfl, rfl, rfl, rfl, rfl, rfl, ⟨_, rfl, hru⟩, ⟨_, rfl, hsp⟩, ⟨_, rfl, b_Spare_waiting⟩, ⟨_, rfl, b_Spare_refused⟩, trivial⟩, ⟨rfl, rfl, of_rg rg_top⟩, ⟨rfl, rfl, of_rg rg_top⟩, ⟨rfl, rfl, of_rg rg_top⟩, ⟨rfl, rfl, of_rg rg_top⟩, ⟨rfl, rfl, of_rg rg_top⟩, ⟨rfl, rfl, b_Spare_stack⟩, trivial⟩⟩⟩
            · exact ⟨y, rfl, hy, Or.inr ⟨w, ⟨⟨rfl, rfl, rfl, rfl, rfl, rfl, rfl, rfl, rfl, rfl, rfl, rfl, rfl, rfl, rfl, gT_mk rfl e_HS_wasKept b_HS_wasKept, trivial⟩, ⟨rfl, rfl, ⟨0, rfl, by decide, by decide⟩, trivial⟩, ⟨rfl, rfl, b_Tape_bytes⟩, ⟨rfl, rfl, topA_ok _, topA_ok _, topA_ok _, topA_ok _, rfl, trivial⟩, ⟨rfl, rfl, rfl, rfl, rfl, rfl, rfl, ⟨_, rfl, hru⟩, ⟨_, rfl, hsp⟩, ⟨_, rfl, b_Spare_waiting⟩, ⟨_, rfl, b_Spare_refused⟩, trivial⟩, ⟨rfl, rfl, of_rg rg_top⟩, ⟨rfl, rfl, of_rg rg_top⟩, ⟨rfl, rfl, of_rg rg_top⟩, ⟨rfl, rfl, of_rg rg_top⟩, ⟨rfl, rfl, of_rg rg_top⟩, ⟨rfl, rfl, b_Spare_stack⟩, trivial⟩⟩⟩

def HX_law120C_R : List AC := hc_dac7959560
def HY_law120C_R : List AC := hc_302ce35a21
def HZ_law120C_R : List AC := hc_deaa03670c
set_option maxRecDepth 100000 in
theorem x_law120C_R {l : Launch} {n : Nat} (h1 : 1 ≤ n ∧ n ≤ 120) : conOkY (MetP l 103 yX11_law cX11_law 4 (some .int) 0 0) [nI n] HX_law120C_R HY_law120C_R HZ_law120C_R (fun τ y => lwY (ob (decA (τ 250))) n y) := by
  intro τ hΦ h hh
  have z := all2_cons hh
  clear hh
  obtain ⟨e0, h, rfl, g0, hh⟩ := z
  rcases e0 with ⟨t0, n0, f0⟩ | ⟨ci, fs⟩
  · exact g0.elim
  obtain ⟨rfl, gf⟩ := g0
  have z := all2_cons gf
  clear gf
  obtain ⟨v0, fs, rfl, q0, gf⟩ := z
  cases (q0 : v0 = .inr (some (.inl 1)))
  have z := all2_cons gf
  clear gf
  obtain ⟨v0, fs, rfl, q0, gf⟩ := z
  cases gT_r (τ := τ) (t := 0) (v := v0) rfl q0
  have z := all2_cons gf
  clear gf
  obtain ⟨v0, fs, rfl, q0, gf⟩ := z
  cases gT_r (τ := τ) (t := 1) (v := v0) rfl q0
  have z := all2_cons gf
  clear gf
  obtain ⟨v0, fs, rfl, q0, gf⟩ := z
  cases gT_r (τ := τ) (t := 2) (v := v0) rfl q0
  have z := all2_cons gf
  clear gf
  obtain ⟨v0, fs, rfl, q0, gf⟩ := z
  cases gT_r (τ := τ) (t := 3) (v := v0) rfl q0
  have z := all2_cons gf
  clear gf
  obtain ⟨v0, fs, rfl, q0, gf⟩ := z
  cases gT_r (τ := τ) (t := 4) (v := v0) rfl q0
  have z := all2_cons gf
  clear gf
  obtain ⟨v0, fs, rfl, q0, gf⟩ := z
  cases gT_r (τ := τ) (t := 5) (v := v0) rfl q0
  have z := all2_cons gf
  clear gf
  obtain ⟨v0, fs, rfl, q0, gf⟩ := z
  cases gT_r (τ := τ) (t := 6) (v := v0) rfl q0
  have z := all2_cons gf
  clear gf
  obtain ⟨v0, fs, rfl, q0, gf⟩ := z
  cases gT_r (τ := τ) (t := 7) (v := v0) rfl q0
  have z := all2_cons gf
  clear gf
  obtain ⟨v0, fs, rfl, q0, gf⟩ := z
  cases gT_r (τ := τ) (t := 8) (v := v0) rfl q0
  have z := all2_cons gf
  clear gf
  obtain ⟨v0, fs, rfl, q0, gf⟩ := z
  cases (q0 : v0 = .inr (some (.inl 3)))
  have z := all2_cons gf
  clear gf
  obtain ⟨v0, fs, rfl, q0, gf⟩ := z
  cases gT_r (τ := τ) (t := 9) (v := v0) rfl q0
  have z := all2_cons gf
  clear gf
  obtain ⟨v0, fs, rfl, q0, gf⟩ := z
  cases gT_r (τ := τ) (t := 10) (v := v0) rfl q0
  have z := all2_cons gf
  clear gf
  obtain ⟨v0, fs, rfl, q0, gf⟩ := z
  cases (q0 : v0 = .inr (some (.inl 4)))
  have z := all2_cons gf
  clear gf
  obtain ⟨v0, fs, rfl, q0, gf⟩ := z
  obtain ⟨HS_wasKept, rfl, e_HS_wasKept, b_HS_wasKept⟩ := gT_x (τ := τ) (t := 201) (v := v0) rfl q0
  cases fs with
  | cons _ _ => exact gf.elim
  | nil =>
    have z := all2_cons hh
    clear hh
    obtain ⟨e0, h, rfl, g0, hh⟩ := z
    rcases e0 with ⟨t0, n0, f0⟩ | ⟨ci, fs⟩
    · exact g0.elim
    obtain ⟨rfl, gf⟩ := g0
    have z := all2_cons gf
    clear gf
    obtain ⟨v0, fs, rfl, q0, gf⟩ := z
    cases (q0 : v0 = .inr (some (.inl 2)))
    have z := all2_cons gf
    clear gf
    obtain ⟨v0, fs, rfl, q0, gf⟩ := z
    obtain ⟨Tape_size, rfl, b_Tape_size⟩ := q0
    cases fs with
    | cons _ _ => exact gf.elim
    | nil =>
      have z := all2_cons hh
      clear hh
      obtain ⟨e1, h, rfl, g1, hh⟩ := z
      rcases e1 with ⟨t1, n1, Tape_bytes⟩ | ⟨ci, fs⟩
      rotate_left
      · exact g1.elim
      obtain ⟨et, en, b_Tape_bytes⟩ := g1
      cases (et : t1 = 0)
      cases en
      have z := all2_cons hh
      clear hh
      obtain ⟨e0, h, rfl, g0, hh⟩ := z
      rcases e0 with ⟨t0, n0, f0⟩ | ⟨ci, fs⟩
      · exact g0.elim
      obtain ⟨rfl, gf⟩ := g0
      have z := all2_cons gf
      clear gf
      obtain ⟨v0, fs, rfl, q0, gf⟩ := z
      cases (q0 : v0 = .inr (some (.inl 2)))
      have z := all2_cons gf
      clear gf
      obtain ⟨v0, fs, rfl, q0, gf⟩ := z
      obtain ⟨LR_end, rfl, b_LR_end⟩ := q0
      have z := all2_cons gf
      clear gf
      obtain ⟨v0, fs, rfl, q0, gf⟩ := z
      obtain ⟨LR_at, rfl, b_LR_at⟩ := q0
      have z := all2_cons gf
      clear gf
      obtain ⟨v0, fs, rfl, q0, gf⟩ := z
      obtain ⟨LR_ahead, rfl, b_LR_ahead⟩ := q0
      have z := all2_cons gf
      clear gf
      obtain ⟨v0, fs, rfl, q0, gf⟩ := z
      obtain ⟨LR_fault, rfl, b_LR_fault⟩ := q0
      have z := all2_cons gf
      clear gf
      obtain ⟨v0, fs, rfl, q0, gf⟩ := z
      cases gT_r (τ := τ) (t := 10) (v := v0) rfl q0
      cases fs with
      | cons _ _ => exact gf.elim
      | nil =>
        have z := all2_cons hh
        clear hh
        obtain ⟨e0, h, rfl, g0, hh⟩ := z
        rcases e0 with ⟨t0, n0, f0⟩ | ⟨ci, fs⟩
        · exact g0.elim
        obtain ⟨rfl, gf⟩ := g0
        have z := all2_cons gf
        clear gf
        obtain ⟨v0, fs, rfl, q0, gf⟩ := z
        cases (q0 : v0 = .inr (some (.inl 5)))
        have z := all2_cons gf
        clear gf
        obtain ⟨v0, fs, rfl, q0, gf⟩ := z
        cases (q0 : v0 = .inr (some (.inl 6)))
        have z := all2_cons gf
        clear gf
        obtain ⟨v0, fs, rfl, q0, gf⟩ := z
        cases (q0 : v0 = .inr (some (.inl 7)))
        have z := all2_cons gf
        clear gf
        obtain ⟨v0, fs, rfl, q0, gf⟩ := z
        cases (q0 : v0 = .inr (some (.inl 8)))
        have z := all2_cons gf
        clear gf
        obtain ⟨v0, fs, rfl, q0, gf⟩ := z
        cases (q0 : v0 = .inr (some (.inl 9)))
        have z := all2_cons gf
        clear gf
        obtain ⟨v0, fs, rfl, q0, gf⟩ := z
        cases (q0 : v0 = .inr (some (.inl 10)))
        have z := all2_cons gf
        clear gf
        obtain ⟨v0, fs, rfl, q0, gf⟩ := z
        obtain ⟨Spare_rules, rfl, b_Spare_rules⟩ := q0
        have z := all2_cons gf
        clear gf
        obtain ⟨v0, fs, rfl, q0, gf⟩ := z
        obtain ⟨Spare_steps, rfl, b_Spare_steps⟩ := q0
        have z := all2_cons gf
        clear gf
        obtain ⟨v0, fs, rfl, q0, gf⟩ := z
        obtain ⟨Spare_waiting, rfl, b_Spare_waiting⟩ := q0
        have z := all2_cons gf
        clear gf
        obtain ⟨v0, fs, rfl, q0, gf⟩ := z
        obtain ⟨Spare_refused, rfl, b_Spare_refused⟩ := q0
        cases fs with
        | cons _ _ => exact gf.elim
        | nil =>
          have z := all2_cons hh
          clear hh
          obtain ⟨e1, h, rfl, g1, hh⟩ := z
          rcases e1 with ⟨t1, n1, Spare_kind⟩ | ⟨ci, fs⟩
          rotate_left
          · exact g1.elim
          obtain ⟨et, en, b_Spare_kind⟩ := g1
          cases (et : t1 = 0)
          cases en
          have z := all2_cons hh
          clear hh
          obtain ⟨e1, h, rfl, g1, hh⟩ := z
          rcases e1 with ⟨t1, n1, Spare_worthAt⟩ | ⟨ci, fs⟩
          rotate_left
          · exact g1.elim
          obtain ⟨et, en, b_Spare_worthAt⟩ := g1
          cases (et : t1 = 0)
          cases en
          have z := all2_cons hh
          clear hh
          obtain ⟨e1, h, rfl, g1, hh⟩ := z
          rcases e1 with ⟨t1, n1, Spare_testAt⟩ | ⟨ci, fs⟩
          rotate_left
          · exact g1.elim
          obtain ⟨et, en, b_Spare_testAt⟩ := g1
          cases (et : t1 = 0)
          cases en
          have z := all2_cons hh
          clear hh
          obtain ⟨e1, h, rfl, g1, hh⟩ := z
          rcases e1 with ⟨t1, n1, Spare_step⟩ | ⟨ci, fs⟩
          rotate_left
          · exact g1.elim
          obtain ⟨et, en, b_Spare_step⟩ := g1
          cases (et : t1 = 0)
          cases en
          have z := all2_cons hh
          clear hh
          obtain ⟨e1, h, rfl, g1, hh⟩ := z
          rcases e1 with ⟨t1, n1, Spare_beside⟩ | ⟨ci, fs⟩
          rotate_left
          · exact g1.elim
          obtain ⟨et, en, b_Spare_beside⟩ := g1
          cases (et : t1 = 0)
          cases en
          have z := all2_cons hh
          clear hh
          obtain ⟨e1, h, rfl, g1, hh⟩ := z
          rcases e1 with ⟨t1, n1, Spare_stack⟩ | ⟨ci, fs⟩
          rotate_left
          · exact g1.elim
          obtain ⟨et, en, b_Spare_stack⟩ := g1
          cases (et : t1 = 0)
          cases en
          cases h with
          | cons _ _ => exact hh.elim
          | nil =>
            obtain ⟨s, hs, rfl⟩ := rng_n (x := Tape_size) (k := 260) (by omega) b_Tape_size.2
            have es := sz_n (c := s) (by omega)
            obtain ⟨rF, eF⟩ := rg_x rfl b_Tape_bytes
            refine (c_X11_law_R (o := ob (decA (τ 250))) (n := n) (t := s) h1.1 (by omega) hs (by omega) (fun i hi => ob_ok (by omega) (eF i (by omega)) (rF i (by omega)))).mono (fun r h' hp => ?_)
            obtain ⟨y, K1, K2, K3, f1, f2, ru, at_, ah, fa, sp, hy, hru, hsp, rfl, (⟨w, rfl⟩ | ⟨w, rfl⟩)⟩ := hp
            · exact ⟨y, rfl, hy, Or.inl ⟨w, ⟨⟨rfl, rfl, rfl, rfl, rfl, rfl, rfl, rfl, rfl, rfl, rfl, rfl, rfl, rfl, rfl, gT_mk rfl e_HS_wasKept b_HS_wasKept, trivial⟩, ⟨rfl, rfl, ⟨0, rfl, by decide, by decide⟩, trivial⟩, ⟨rfl, rfl, b_Tape_bytes⟩, ⟨rfl, rfl, topA_ok _, topA_ok _, topA_ok _, topA_ok _, rfl, trivial⟩, ⟨rfl, rfl, rfl, rfl, rfl, rfl, rfl, ⟨_, rfl, hru⟩, ⟨_, rfl, hsp⟩, ⟨_, rfl, b_Spare_waiting⟩, ⟨_, rfl, b_Spare_refused⟩, trivial⟩, ⟨rfl, rfl, of_rg rg_top⟩, ⟨rfl, rfl, of_rg rg_top⟩, ⟨rfl, rfl, of_rg rg_top⟩, ⟨rfl, rfl, of_rg rg_top⟩, ⟨rfl, rfl, of_rg rg_top⟩, ⟨rfl, rfl, b_Spare_stack⟩, trivial⟩⟩⟩
            · exact ⟨y, rfl, hy, Or.inr ⟨w, ⟨⟨rfl, rfl, rfl, rfl, rfl, rfl, rfl, rfl, rfl, rfl, rfl, rfl, rfl, rfl, rfl, gT_mk rfl e_HS_wasKept b_HS_wasKept, trivial⟩, ⟨rfl, rfl, ⟨0, rfl, by decide, by decide⟩, trivial⟩, ⟨rfl, rfl, b_Tape_bytes⟩, ⟨rfl, rfl, topA_ok _, topA_ok _, topA_ok _, topA_ok _, rfl, trivial⟩, ⟨rfl, rfl, rfl, rfl, rfl, rfl, rfl, ⟨_, rfl, hru⟩, ⟨_, rfl, hsp⟩, ⟨_, rfl, b_Spare_waiting⟩, ⟨_, rfl, b_Spare_refused⟩, trivial⟩, ⟨rfl, rfl, of_rg rg_top⟩, ⟨rfl, rfl, of_rg rg_top⟩, ⟨rfl, rfl, of_rg rg_top⟩, ⟨rfl, rfl, of_rg rg_top⟩, ⟨rfl, rfl, of_rg rg_top⟩, ⟨rfl, rfl, b_Spare_stack⟩, trivial⟩⟩⟩

def HX_law140C_S : List AC := hc_bae252069e
def HY_law140C_S : List AC := hc_302ce35a21
def HZ_law140C_S : List AC := hc_deaa03670c
set_option maxRecDepth 100000 in
theorem x_law140C_S {l : Launch} {n : Nat} (h1 : 1 ≤ n ∧ n ≤ 140) : conOkY (MetP l 103 yX11_law cX11_law 4 (some .int) 0 0) [nI n] HX_law140C_S HY_law140C_S HZ_law140C_S (fun τ y => lwY (ob (decA (τ 250))) n y) := by
  intro τ hΦ h hh
  have z := all2_cons hh
  clear hh
  obtain ⟨e0, h, rfl, g0, hh⟩ := z
  rcases e0 with ⟨t0, n0, f0⟩ | ⟨ci, fs⟩
  · exact g0.elim
  obtain ⟨rfl, gf⟩ := g0
  have z := all2_cons gf
  clear gf
  obtain ⟨v0, fs, rfl, q0, gf⟩ := z
  cases (q0 : v0 = .inr (some (.inl 1)))
  have z := all2_cons gf
  clear gf
  obtain ⟨v0, fs, rfl, q0, gf⟩ := z
  cases gT_r (τ := τ) (t := 0) (v := v0) rfl q0
  have z := all2_cons gf
  clear gf
  obtain ⟨v0, fs, rfl, q0, gf⟩ := z
  cases gT_r (τ := τ) (t := 1) (v := v0) rfl q0
  have z := all2_cons gf
  clear gf
  obtain ⟨v0, fs, rfl, q0, gf⟩ := z
  cases gT_r (τ := τ) (t := 2) (v := v0) rfl q0
  have z := all2_cons gf
  clear gf
  obtain ⟨v0, fs, rfl, q0, gf⟩ := z
  cases gT_r (τ := τ) (t := 3) (v := v0) rfl q0
  have z := all2_cons gf
  clear gf
  obtain ⟨v0, fs, rfl, q0, gf⟩ := z
  cases gT_r (τ := τ) (t := 4) (v := v0) rfl q0
  have z := all2_cons gf
  clear gf
  obtain ⟨v0, fs, rfl, q0, gf⟩ := z
  cases gT_r (τ := τ) (t := 5) (v := v0) rfl q0
  have z := all2_cons gf
  clear gf
  obtain ⟨v0, fs, rfl, q0, gf⟩ := z
  cases gT_r (τ := τ) (t := 6) (v := v0) rfl q0
  have z := all2_cons gf
  clear gf
  obtain ⟨v0, fs, rfl, q0, gf⟩ := z
  cases gT_r (τ := τ) (t := 7) (v := v0) rfl q0
  have z := all2_cons gf
  clear gf
  obtain ⟨v0, fs, rfl, q0, gf⟩ := z
  cases gT_r (τ := τ) (t := 8) (v := v0) rfl q0
  have z := all2_cons gf
  clear gf
  obtain ⟨v0, fs, rfl, q0, gf⟩ := z
  cases (q0 : v0 = .inr (some (.inl 3)))
  have z := all2_cons gf
  clear gf
  obtain ⟨v0, fs, rfl, q0, gf⟩ := z
  cases gT_r (τ := τ) (t := 9) (v := v0) rfl q0
  have z := all2_cons gf
  clear gf
  obtain ⟨v0, fs, rfl, q0, gf⟩ := z
  cases gT_r (τ := τ) (t := 10) (v := v0) rfl q0
  have z := all2_cons gf
  clear gf
  obtain ⟨v0, fs, rfl, q0, gf⟩ := z
  cases (q0 : v0 = .inr (some (.inl 4)))
  have z := all2_cons gf
  clear gf
  obtain ⟨v0, fs, rfl, q0, gf⟩ := z
  obtain ⟨HS_wasKept, rfl, e_HS_wasKept, b_HS_wasKept⟩ := gT_x (τ := τ) (t := 201) (v := v0) rfl q0
  cases fs with
  | cons _ _ => exact gf.elim
  | nil =>
    have z := all2_cons hh
    clear hh
    obtain ⟨e0, h, rfl, g0, hh⟩ := z
    rcases e0 with ⟨t0, n0, f0⟩ | ⟨ci, fs⟩
    · exact g0.elim
    obtain ⟨rfl, gf⟩ := g0
    have z := all2_cons gf
    clear gf
    obtain ⟨v0, fs, rfl, q0, gf⟩ := z
    cases (q0 : v0 = .inr (some (.inl 2)))
    have z := all2_cons gf
    clear gf
    obtain ⟨v0, fs, rfl, q0, gf⟩ := z
    obtain ⟨Tape_size, rfl, b_Tape_size⟩ := q0
    cases fs with
    | cons _ _ => exact gf.elim
    | nil =>
      have z := all2_cons hh
      clear hh
      obtain ⟨e1, h, rfl, g1, hh⟩ := z
      rcases e1 with ⟨t1, n1, Tape_bytes⟩ | ⟨ci, fs⟩
      rotate_left
      · exact g1.elim
      obtain ⟨et, en, b_Tape_bytes⟩ := g1
      cases (et : t1 = 0)
      cases en
      have z := all2_cons hh
      clear hh
      obtain ⟨e0, h, rfl, g0, hh⟩ := z
      rcases e0 with ⟨t0, n0, f0⟩ | ⟨ci, fs⟩
      · exact g0.elim
      obtain ⟨rfl, gf⟩ := g0
      have z := all2_cons gf
      clear gf
      obtain ⟨v0, fs, rfl, q0, gf⟩ := z
      cases (q0 : v0 = .inr (some (.inl 2)))
      have z := all2_cons gf
      clear gf
      obtain ⟨v0, fs, rfl, q0, gf⟩ := z
      obtain ⟨LR_end, rfl, b_LR_end⟩ := q0
      have z := all2_cons gf
      clear gf
      obtain ⟨v0, fs, rfl, q0, gf⟩ := z
      obtain ⟨LR_at, rfl, b_LR_at⟩ := q0
      have z := all2_cons gf
      clear gf
      obtain ⟨v0, fs, rfl, q0, gf⟩ := z
      obtain ⟨LR_ahead, rfl, b_LR_ahead⟩ := q0
      have z := all2_cons gf
      clear gf
      obtain ⟨v0, fs, rfl, q0, gf⟩ := z
      obtain ⟨LR_fault, rfl, b_LR_fault⟩ := q0
      have z := all2_cons gf
      clear gf
      obtain ⟨v0, fs, rfl, q0, gf⟩ := z
      cases (q0 : v0 = .inr (some (.inl 4)))
      cases fs with
      | cons _ _ => exact gf.elim
      | nil =>
        have z := all2_cons hh
        clear hh
        obtain ⟨e0, h, rfl, g0, hh⟩ := z
        rcases e0 with ⟨t0, n0, f0⟩ | ⟨ci, fs⟩
        · exact g0.elim
        obtain ⟨rfl, gf⟩ := g0
        have z := all2_cons gf
        clear gf
        obtain ⟨v0, fs, rfl, q0, gf⟩ := z
        cases (q0 : v0 = .inr (some (.inl 5)))
        have z := all2_cons gf
        clear gf
        obtain ⟨v0, fs, rfl, q0, gf⟩ := z
        cases (q0 : v0 = .inr (some (.inl 6)))
        have z := all2_cons gf
        clear gf
        obtain ⟨v0, fs, rfl, q0, gf⟩ := z
        cases (q0 : v0 = .inr (some (.inl 7)))
        have z := all2_cons gf
        clear gf
        obtain ⟨v0, fs, rfl, q0, gf⟩ := z
        cases (q0 : v0 = .inr (some (.inl 8)))
        have z := all2_cons gf
        clear gf
        obtain ⟨v0, fs, rfl, q0, gf⟩ := z
        cases (q0 : v0 = .inr (some (.inl 9)))
        have z := all2_cons gf
        clear gf
        obtain ⟨v0, fs, rfl, q0, gf⟩ := z
        cases (q0 : v0 = .inr (some (.inl 10)))
        have z := all2_cons gf
        clear gf
        obtain ⟨v0, fs, rfl, q0, gf⟩ := z
        obtain ⟨Spare_rules, rfl, b_Spare_rules⟩ := q0
        have z := all2_cons gf
        clear gf
        obtain ⟨v0, fs, rfl, q0, gf⟩ := z
        obtain ⟨Spare_steps, rfl, b_Spare_steps⟩ := q0
        have z := all2_cons gf
        clear gf
        obtain ⟨v0, fs, rfl, q0, gf⟩ := z
        obtain ⟨Spare_waiting, rfl, b_Spare_waiting⟩ := q0
        have z := all2_cons gf
        clear gf
        obtain ⟨v0, fs, rfl, q0, gf⟩ := z
        obtain ⟨Spare_refused, rfl, b_Spare_refused⟩ := q0
        cases fs with
        | cons _ _ => exact gf.elim
        | nil =>
          have z := all2_cons hh
          clear hh
          obtain ⟨e1, h, rfl, g1, hh⟩ := z
          rcases e1 with ⟨t1, n1, Spare_kind⟩ | ⟨ci, fs⟩
          rotate_left
          · exact g1.elim
          obtain ⟨et, en, b_Spare_kind⟩ := g1
          cases (et : t1 = 0)
          cases en
          have z := all2_cons hh
          clear hh
          obtain ⟨e1, h, rfl, g1, hh⟩ := z
          rcases e1 with ⟨t1, n1, Spare_worthAt⟩ | ⟨ci, fs⟩
          rotate_left
          · exact g1.elim
          obtain ⟨et, en, b_Spare_worthAt⟩ := g1
          cases (et : t1 = 0)
          cases en
          have z := all2_cons hh
          clear hh
          obtain ⟨e1, h, rfl, g1, hh⟩ := z
          rcases e1 with ⟨t1, n1, Spare_testAt⟩ | ⟨ci, fs⟩
          rotate_left
          · exact g1.elim
          obtain ⟨et, en, b_Spare_testAt⟩ := g1
          cases (et : t1 = 0)
          cases en
          have z := all2_cons hh
          clear hh
          obtain ⟨e1, h, rfl, g1, hh⟩ := z
          rcases e1 with ⟨t1, n1, Spare_step⟩ | ⟨ci, fs⟩
          rotate_left
          · exact g1.elim
          obtain ⟨et, en, b_Spare_step⟩ := g1
          cases (et : t1 = 0)
          cases en
          have z := all2_cons hh
          clear hh
          obtain ⟨e1, h, rfl, g1, hh⟩ := z
          rcases e1 with ⟨t1, n1, Spare_beside⟩ | ⟨ci, fs⟩
          rotate_left
          · exact g1.elim
          obtain ⟨et, en, b_Spare_beside⟩ := g1
          cases (et : t1 = 0)
          cases en
          have z := all2_cons hh
          clear hh
          obtain ⟨e1, h, rfl, g1, hh⟩ := z
          rcases e1 with ⟨t1, n1, Spare_stack⟩ | ⟨ci, fs⟩
          rotate_left
          · exact g1.elim
          obtain ⟨et, en, b_Spare_stack⟩ := g1
          cases (et : t1 = 0)
          cases en
          cases h with
          | cons _ _ => exact hh.elim
          | nil =>
            obtain ⟨s, hs, rfl⟩ := rng_n (x := Tape_size) (k := 260) (by omega) b_Tape_size.2
            have es := sz_n (c := s) (by omega)
            obtain ⟨rF, eF⟩ := rg_x rfl b_Tape_bytes
            refine (c_X11_law_S (o := ob (decA (τ 250))) (n := n) (t := s) h1.1 (by omega) hs (by omega) (fun i hi => ob_ok (by omega) (eF i (by omega)) (rF i (by omega)))).mono (fun r h' hp => ?_)
            obtain ⟨y, K1, K2, K3, f1, f2, ru, at_, ah, fa, sp, hy, hru, hsp, rfl, (⟨w, rfl⟩ | ⟨w, rfl⟩)⟩ := hp
            · exact ⟨y, rfl, hy, Or.inl ⟨w, ⟨⟨rfl, rfl, rfl, rfl, rfl, rfl, rfl, rfl, rfl, rfl, rfl, rfl, rfl, rfl, rfl, gT_mk rfl e_HS_wasKept b_HS_wasKept, trivial⟩, ⟨rfl, rfl, ⟨0, rfl, by decide, by decide⟩, trivial⟩, ⟨rfl, rfl, b_Tape_bytes⟩, ⟨rfl, rfl, topA_ok _, topA_ok _, topA_ok _, topA_ok _, rfl, trivial⟩, ⟨rfl, rfl, rfl, rfl, rfl, rfl, rfl, ⟨_, rfl, hru⟩, ⟨_, rfl, hsp⟩, ⟨_, rfl, b_Spare_waiting⟩, ⟨_, rfl, b_Spare_refused⟩, trivial⟩, ⟨rfl, rfl, of_rg rg_top⟩, ⟨rfl, rfl, of_rg rg_top⟩, ⟨rfl, rfl, of_rg rg_top⟩, ⟨rfl, rfl, of_rg rg_top⟩, ⟨rfl, rfl, of_rg rg_top⟩, ⟨rfl, rfl, b_Spare_stack⟩, trivial⟩⟩⟩
            · exact ⟨y, rfl, hy, Or.inr ⟨w, ⟨⟨rfl, rfl, rfl, rfl, rfl, rfl, rfl, rfl, rfl, rfl, rfl, rfl, rfl, rfl, rfl, gT_mk rfl e_HS_wasKept b_HS_wasKept, trivial⟩, ⟨rfl, rfl, ⟨0, rfl, by decide, by decide⟩, trivial⟩, ⟨rfl, rfl, b_Tape_bytes⟩, ⟨rfl, rfl, topA_ok _, topA_ok _, topA_ok _, topA_ok _, rfl, trivial⟩, ⟨rfl, rfl, rfl, rfl, rfl, rfl, rfl, ⟨_, rfl, hru⟩, ⟨_, rfl, hsp⟩, ⟨_, rfl, b_Spare_waiting⟩, ⟨_, rfl, b_Spare_refused⟩, trivial⟩, ⟨rfl, rfl, of_rg rg_top⟩, ⟨rfl, rfl, of_rg rg_top⟩, ⟨rfl, rfl, of_rg rg_top⟩, ⟨rfl, rfl, of_rg rg_top⟩, ⟨rfl, rfl, of_rg rg_top⟩, ⟨rfl, rfl, b_Spare_stack⟩, trivial⟩⟩⟩

def HX_law140C_R : List AC := hc_56baee8f6d
def HY_law140C_R : List AC := hc_302ce35a21
def HZ_law140C_R : List AC := hc_deaa03670c
set_option maxRecDepth 100000 in
theorem x_law140C_R {l : Launch} {n : Nat} (h1 : 1 ≤ n ∧ n ≤ 140) : conOkY (MetP l 103 yX11_law cX11_law 4 (some .int) 0 0) [nI n] HX_law140C_R HY_law140C_R HZ_law140C_R (fun τ y => lwY (ob (decA (τ 250))) n y) := by
  intro τ hΦ h hh
  have z := all2_cons hh
  clear hh
  obtain ⟨e0, h, rfl, g0, hh⟩ := z
  rcases e0 with ⟨t0, n0, f0⟩ | ⟨ci, fs⟩
  · exact g0.elim
  obtain ⟨rfl, gf⟩ := g0
  have z := all2_cons gf
  clear gf
  obtain ⟨v0, fs, rfl, q0, gf⟩ := z
  cases (q0 : v0 = .inr (some (.inl 1)))
  have z := all2_cons gf
  clear gf
  obtain ⟨v0, fs, rfl, q0, gf⟩ := z
  cases gT_r (τ := τ) (t := 0) (v := v0) rfl q0
  have z := all2_cons gf
  clear gf
  obtain ⟨v0, fs, rfl, q0, gf⟩ := z
  cases gT_r (τ := τ) (t := 1) (v := v0) rfl q0
  have z := all2_cons gf
  clear gf
  obtain ⟨v0, fs, rfl, q0, gf⟩ := z
  cases gT_r (τ := τ) (t := 2) (v := v0) rfl q0
  have z := all2_cons gf
  clear gf
  obtain ⟨v0, fs, rfl, q0, gf⟩ := z
  cases gT_r (τ := τ) (t := 3) (v := v0) rfl q0
  have z := all2_cons gf
  clear gf
  obtain ⟨v0, fs, rfl, q0, gf⟩ := z
  cases gT_r (τ := τ) (t := 4) (v := v0) rfl q0
  have z := all2_cons gf
  clear gf
  obtain ⟨v0, fs, rfl, q0, gf⟩ := z
  cases gT_r (τ := τ) (t := 5) (v := v0) rfl q0
  have z := all2_cons gf
  clear gf
  obtain ⟨v0, fs, rfl, q0, gf⟩ := z
  cases gT_r (τ := τ) (t := 6) (v := v0) rfl q0
  have z := all2_cons gf
  clear gf
  obtain ⟨v0, fs, rfl, q0, gf⟩ := z
  cases gT_r (τ := τ) (t := 7) (v := v0) rfl q0
  have z := all2_cons gf
  clear gf
  obtain ⟨v0, fs, rfl, q0, gf⟩ := z
  cases gT_r (τ := τ) (t := 8) (v := v0) rfl q0
  have z := all2_cons gf
  clear gf
  obtain ⟨v0, fs, rfl, q0, gf⟩ := z
  cases (q0 : v0 = .inr (some (.inl 3)))
  have z := all2_cons gf
  clear gf
  obtain ⟨v0, fs, rfl, q0, gf⟩ := z
  cases gT_r (τ := τ) (t := 9) (v := v0) rfl q0
  have z := all2_cons gf
  clear gf
  obtain ⟨v0, fs, rfl, q0, gf⟩ := z
  cases gT_r (τ := τ) (t := 10) (v := v0) rfl q0
  have z := all2_cons gf
  clear gf
  obtain ⟨v0, fs, rfl, q0, gf⟩ := z
  cases (q0 : v0 = .inr (some (.inl 4)))
  have z := all2_cons gf
  clear gf
  obtain ⟨v0, fs, rfl, q0, gf⟩ := z
  obtain ⟨HS_wasKept, rfl, e_HS_wasKept, b_HS_wasKept⟩ := gT_x (τ := τ) (t := 201) (v := v0) rfl q0
  cases fs with
  | cons _ _ => exact gf.elim
  | nil =>
    have z := all2_cons hh
    clear hh
    obtain ⟨e0, h, rfl, g0, hh⟩ := z
    rcases e0 with ⟨t0, n0, f0⟩ | ⟨ci, fs⟩
    · exact g0.elim
    obtain ⟨rfl, gf⟩ := g0
    have z := all2_cons gf
    clear gf
    obtain ⟨v0, fs, rfl, q0, gf⟩ := z
    cases (q0 : v0 = .inr (some (.inl 2)))
    have z := all2_cons gf
    clear gf
    obtain ⟨v0, fs, rfl, q0, gf⟩ := z
    obtain ⟨Tape_size, rfl, b_Tape_size⟩ := q0
    cases fs with
    | cons _ _ => exact gf.elim
    | nil =>
      have z := all2_cons hh
      clear hh
      obtain ⟨e1, h, rfl, g1, hh⟩ := z
      rcases e1 with ⟨t1, n1, Tape_bytes⟩ | ⟨ci, fs⟩
      rotate_left
      · exact g1.elim
      obtain ⟨et, en, b_Tape_bytes⟩ := g1
      cases (et : t1 = 0)
      cases en
      have z := all2_cons hh
      clear hh
      obtain ⟨e0, h, rfl, g0, hh⟩ := z
      rcases e0 with ⟨t0, n0, f0⟩ | ⟨ci, fs⟩
      · exact g0.elim
      obtain ⟨rfl, gf⟩ := g0
      have z := all2_cons gf
      clear gf
      obtain ⟨v0, fs, rfl, q0, gf⟩ := z
      cases (q0 : v0 = .inr (some (.inl 2)))
      have z := all2_cons gf
      clear gf
      obtain ⟨v0, fs, rfl, q0, gf⟩ := z
      obtain ⟨LR_end, rfl, b_LR_end⟩ := q0
      have z := all2_cons gf
      clear gf
      obtain ⟨v0, fs, rfl, q0, gf⟩ := z
      obtain ⟨LR_at, rfl, b_LR_at⟩ := q0
      have z := all2_cons gf
      clear gf
      obtain ⟨v0, fs, rfl, q0, gf⟩ := z
      obtain ⟨LR_ahead, rfl, b_LR_ahead⟩ := q0
      have z := all2_cons gf
      clear gf
      obtain ⟨v0, fs, rfl, q0, gf⟩ := z
      obtain ⟨LR_fault, rfl, b_LR_fault⟩ := q0
      have z := all2_cons gf
      clear gf
      obtain ⟨v0, fs, rfl, q0, gf⟩ := z
      cases gT_r (τ := τ) (t := 10) (v := v0) rfl q0
      cases fs with
      | cons _ _ => exact gf.elim
      | nil =>
        have z := all2_cons hh
        clear hh
        obtain ⟨e0, h, rfl, g0, hh⟩ := z
        rcases e0 with ⟨t0, n0, f0⟩ | ⟨ci, fs⟩
        · exact g0.elim
        obtain ⟨rfl, gf⟩ := g0
        have z := all2_cons gf
        clear gf
        obtain ⟨v0, fs, rfl, q0, gf⟩ := z
        cases (q0 : v0 = .inr (some (.inl 5)))
        have z := all2_cons gf
        clear gf
        obtain ⟨v0, fs, rfl, q0, gf⟩ := z
        cases (q0 : v0 = .inr (some (.inl 6)))
        have z := all2_cons gf
        clear gf
        obtain ⟨v0, fs, rfl, q0, gf⟩ := z
        cases (q0 : v0 = .inr (some (.inl 7)))
        have z := all2_cons gf
        clear gf
        obtain ⟨v0, fs, rfl, q0, gf⟩ := z
        cases (q0 : v0 = .inr (some (.inl 8)))
        have z := all2_cons gf
        clear gf
        obtain ⟨v0, fs, rfl, q0, gf⟩ := z
        cases (q0 : v0 = .inr (some (.inl 9)))
        have z := all2_cons gf
        clear gf
        obtain ⟨v0, fs, rfl, q0, gf⟩ := z
        cases (q0 : v0 = .inr (some (.inl 10)))
        have z := all2_cons gf
        clear gf
        obtain ⟨v0, fs, rfl, q0, gf⟩ := z
        obtain ⟨Spare_rules, rfl, b_Spare_rules⟩ := q0
        have z := all2_cons gf
        clear gf
        obtain ⟨v0, fs, rfl, q0, gf⟩ := z
        obtain ⟨Spare_steps, rfl, b_Spare_steps⟩ := q0
        have z := all2_cons gf
        clear gf
        obtain ⟨v0, fs, rfl, q0, gf⟩ := z
        obtain ⟨Spare_waiting, rfl, b_Spare_waiting⟩ := q0
        have z := all2_cons gf
        clear gf
        obtain ⟨v0, fs, rfl, q0, gf⟩ := z
        obtain ⟨Spare_refused, rfl, b_Spare_refused⟩ := q0
        cases fs with
        | cons _ _ => exact gf.elim
        | nil =>
          have z := all2_cons hh
          clear hh
          obtain ⟨e1, h, rfl, g1, hh⟩ := z
          rcases e1 with ⟨t1, n1, Spare_kind⟩ | ⟨ci, fs⟩
          rotate_left
          · exact g1.elim
          obtain ⟨et, en, b_Spare_kind⟩ := g1
          cases (et : t1 = 0)
          cases en
          have z := all2_cons hh
          clear hh
          obtain ⟨e1, h, rfl, g1, hh⟩ := z
          rcases e1 with ⟨t1, n1, Spare_worthAt⟩ | ⟨ci, fs⟩
          rotate_left
          · exact g1.elim
          obtain ⟨et, en, b_Spare_worthAt⟩ := g1
          cases (et : t1 = 0)
          cases en
          have z := all2_cons hh
          clear hh
          obtain ⟨e1, h, rfl, g1, hh⟩ := z
          rcases e1 with ⟨t1, n1, Spare_testAt⟩ | ⟨ci, fs⟩
          rotate_left
          · exact g1.elim
          obtain ⟨et, en, b_Spare_testAt⟩ := g1
          cases (et : t1 = 0)
          cases en
          have z := all2_cons hh
          clear hh
          obtain ⟨e1, h, rfl, g1, hh⟩ := z
          rcases e1 with ⟨t1, n1, Spare_step⟩ | ⟨ci, fs⟩
          rotate_left
          · exact g1.elim
          obtain ⟨et, en, b_Spare_step⟩ := g1
          cases (et : t1 = 0)
          cases en
          have z := all2_cons hh
          clear hh
          obtain ⟨e1, h, rfl, g1, hh⟩ := z
          rcases e1 with ⟨t1, n1, Spare_beside⟩ | ⟨ci, fs⟩
          rotate_left
          · exact g1.elim
          obtain ⟨et, en, b_Spare_beside⟩ := g1
          cases (et : t1 = 0)
          cases en
          have z := all2_cons hh
          clear hh
          obtain ⟨e1, h, rfl, g1, hh⟩ := z
          rcases e1 with ⟨t1, n1, Spare_stack⟩ | ⟨ci, fs⟩
          rotate_left
          · exact g1.elim
          obtain ⟨et, en, b_Spare_stack⟩ := g1
          cases (et : t1 = 0)
          cases en
          cases h with
          | cons _ _ => exact hh.elim
          | nil =>
            obtain ⟨s, hs, rfl⟩ := rng_n (x := Tape_size) (k := 260) (by omega) b_Tape_size.2
            have es := sz_n (c := s) (by omega)
            obtain ⟨rF, eF⟩ := rg_x rfl b_Tape_bytes
            refine (c_X11_law_R (o := ob (decA (τ 250))) (n := n) (t := s) h1.1 (by omega) hs (by omega) (fun i hi => ob_ok (by omega) (eF i (by omega)) (rF i (by omega)))).mono (fun r h' hp => ?_)
            obtain ⟨y, K1, K2, K3, f1, f2, ru, at_, ah, fa, sp, hy, hru, hsp, rfl, (⟨w, rfl⟩ | ⟨w, rfl⟩)⟩ := hp
            · exact ⟨y, rfl, hy, Or.inl ⟨w, ⟨⟨rfl, rfl, rfl, rfl, rfl, rfl, rfl, rfl, rfl, rfl, rfl, rfl, rfl, rfl, rfl, gT_mk rfl e_HS_wasKept b_HS_wasKept, trivial⟩, ⟨rfl, rfl, ⟨0, rfl, by decide, by decide⟩, trivial⟩, ⟨rfl, rfl, b_Tape_bytes⟩, ⟨rfl, rfl, topA_ok _, topA_ok _, topA_ok _, topA_ok _, rfl, trivial⟩, ⟨rfl, rfl, rfl, rfl, rfl, rfl, rfl, ⟨_, rfl, hru⟩, ⟨_, rfl, hsp⟩, ⟨_, rfl, b_Spare_waiting⟩, ⟨_, rfl, b_Spare_refused⟩, trivial⟩, ⟨rfl, rfl, of_rg rg_top⟩, ⟨rfl, rfl, of_rg rg_top⟩, ⟨rfl, rfl, of_rg rg_top⟩, ⟨rfl, rfl, of_rg rg_top⟩, ⟨rfl, rfl, of_rg rg_top⟩, ⟨rfl, rfl, b_Spare_stack⟩, trivial⟩⟩⟩
            · exact ⟨y, rfl, hy, Or.inr ⟨w, ⟨⟨rfl, rfl, rfl, rfl, rfl, rfl, rfl, rfl, rfl, rfl, rfl, rfl, rfl, rfl, rfl, gT_mk rfl e_HS_wasKept b_HS_wasKept, trivial⟩, ⟨rfl, rfl, ⟨0, rfl, by decide, by decide⟩, trivial⟩, ⟨rfl, rfl, b_Tape_bytes⟩, ⟨rfl, rfl, topA_ok _, topA_ok _, topA_ok _, topA_ok _, rfl, trivial⟩, ⟨rfl, rfl, rfl, rfl, rfl, rfl, rfl, ⟨_, rfl, hru⟩, ⟨_, rfl, hsp⟩, ⟨_, rfl, b_Spare_waiting⟩, ⟨_, rfl, b_Spare_refused⟩, trivial⟩, ⟨rfl, rfl, of_rg rg_top⟩, ⟨rfl, rfl, of_rg rg_top⟩, ⟨rfl, rfl, of_rg rg_top⟩, ⟨rfl, rfl, of_rg rg_top⟩, ⟨rfl, rfl, of_rg rg_top⟩, ⟨rfl, rfl, b_Spare_stack⟩, trivial⟩⟩⟩

def HX_law160C_S : List AC := hc_2e8ad58d4e
def HY_law160C_S : List AC := hc_302ce35a21
def HZ_law160C_S : List AC := hc_deaa03670c
set_option maxRecDepth 100000 in
theorem x_law160C_S {l : Launch} {n : Nat} (h1 : 1 ≤ n ∧ n ≤ 160) : conOkY (MetP l 103 yX11_law cX11_law 4 (some .int) 0 0) [nI n] HX_law160C_S HY_law160C_S HZ_law160C_S (fun τ y => lwY (ob (decA (τ 250))) n y) := by
  intro τ hΦ h hh
  have z := all2_cons hh
  clear hh
  obtain ⟨e0, h, rfl, g0, hh⟩ := z
  rcases e0 with ⟨t0, n0, f0⟩ | ⟨ci, fs⟩
  · exact g0.elim
  obtain ⟨rfl, gf⟩ := g0
  have z := all2_cons gf
  clear gf
  obtain ⟨v0, fs, rfl, q0, gf⟩ := z
  cases (q0 : v0 = .inr (some (.inl 1)))
  have z := all2_cons gf
  clear gf
  obtain ⟨v0, fs, rfl, q0, gf⟩ := z
  cases gT_r (τ := τ) (t := 0) (v := v0) rfl q0
  have z := all2_cons gf
  clear gf
  obtain ⟨v0, fs, rfl, q0, gf⟩ := z
  cases gT_r (τ := τ) (t := 1) (v := v0) rfl q0
  have z := all2_cons gf
  clear gf
  obtain ⟨v0, fs, rfl, q0, gf⟩ := z
  cases gT_r (τ := τ) (t := 2) (v := v0) rfl q0
  have z := all2_cons gf
  clear gf
  obtain ⟨v0, fs, rfl, q0, gf⟩ := z
  cases gT_r (τ := τ) (t := 3) (v := v0) rfl q0
  have z := all2_cons gf
  clear gf
  obtain ⟨v0, fs, rfl, q0, gf⟩ := z
  cases gT_r (τ := τ) (t := 4) (v := v0) rfl q0
  have z := all2_cons gf
  clear gf
  obtain ⟨v0, fs, rfl, q0, gf⟩ := z
  cases gT_r (τ := τ) (t := 5) (v := v0) rfl q0
  have z := all2_cons gf
  clear gf
  obtain ⟨v0, fs, rfl, q0, gf⟩ := z
  cases gT_r (τ := τ) (t := 6) (v := v0) rfl q0
  have z := all2_cons gf
  clear gf
  obtain ⟨v0, fs, rfl, q0, gf⟩ := z
  cases gT_r (τ := τ) (t := 7) (v := v0) rfl q0
  have z := all2_cons gf
  clear gf
  obtain ⟨v0, fs, rfl, q0, gf⟩ := z
  cases gT_r (τ := τ) (t := 8) (v := v0) rfl q0
  have z := all2_cons gf
  clear gf
  obtain ⟨v0, fs, rfl, q0, gf⟩ := z
  cases (q0 : v0 = .inr (some (.inl 3)))
  have z := all2_cons gf
  clear gf
  obtain ⟨v0, fs, rfl, q0, gf⟩ := z
  cases gT_r (τ := τ) (t := 9) (v := v0) rfl q0
  have z := all2_cons gf
  clear gf
  obtain ⟨v0, fs, rfl, q0, gf⟩ := z
  cases gT_r (τ := τ) (t := 10) (v := v0) rfl q0
  have z := all2_cons gf
  clear gf
  obtain ⟨v0, fs, rfl, q0, gf⟩ := z
  cases (q0 : v0 = .inr (some (.inl 4)))
  have z := all2_cons gf
  clear gf
  obtain ⟨v0, fs, rfl, q0, gf⟩ := z
  obtain ⟨HS_wasKept, rfl, e_HS_wasKept, b_HS_wasKept⟩ := gT_x (τ := τ) (t := 201) (v := v0) rfl q0
  cases fs with
  | cons _ _ => exact gf.elim
  | nil =>
    have z := all2_cons hh
    clear hh
    obtain ⟨e0, h, rfl, g0, hh⟩ := z
    rcases e0 with ⟨t0, n0, f0⟩ | ⟨ci, fs⟩
    · exact g0.elim
    obtain ⟨rfl, gf⟩ := g0
    have z := all2_cons gf
    clear gf
    obtain ⟨v0, fs, rfl, q0, gf⟩ := z
    cases (q0 : v0 = .inr (some (.inl 2)))
    have z := all2_cons gf
    clear gf
    obtain ⟨v0, fs, rfl, q0, gf⟩ := z
    obtain ⟨Tape_size, rfl, b_Tape_size⟩ := q0
    cases fs with
    | cons _ _ => exact gf.elim
    | nil =>
      have z := all2_cons hh
      clear hh
      obtain ⟨e1, h, rfl, g1, hh⟩ := z
      rcases e1 with ⟨t1, n1, Tape_bytes⟩ | ⟨ci, fs⟩
      rotate_left
      · exact g1.elim
      obtain ⟨et, en, b_Tape_bytes⟩ := g1
      cases (et : t1 = 0)
      cases en
      have z := all2_cons hh
      clear hh
      obtain ⟨e0, h, rfl, g0, hh⟩ := z
      rcases e0 with ⟨t0, n0, f0⟩ | ⟨ci, fs⟩
      · exact g0.elim
      obtain ⟨rfl, gf⟩ := g0
      have z := all2_cons gf
      clear gf
      obtain ⟨v0, fs, rfl, q0, gf⟩ := z
      cases (q0 : v0 = .inr (some (.inl 2)))
      have z := all2_cons gf
      clear gf
      obtain ⟨v0, fs, rfl, q0, gf⟩ := z
      obtain ⟨LR_end, rfl, b_LR_end⟩ := q0
      have z := all2_cons gf
      clear gf
      obtain ⟨v0, fs, rfl, q0, gf⟩ := z
      obtain ⟨LR_at, rfl, b_LR_at⟩ := q0
      have z := all2_cons gf
      clear gf
      obtain ⟨v0, fs, rfl, q0, gf⟩ := z
      obtain ⟨LR_ahead, rfl, b_LR_ahead⟩ := q0
      have z := all2_cons gf
      clear gf
      obtain ⟨v0, fs, rfl, q0, gf⟩ := z
      obtain ⟨LR_fault, rfl, b_LR_fault⟩ := q0
      have z := all2_cons gf
      clear gf
      obtain ⟨v0, fs, rfl, q0, gf⟩ := z
      cases (q0 : v0 = .inr (some (.inl 4)))
      cases fs with
      | cons _ _ => exact gf.elim
      | nil =>
        have z := all2_cons hh
        clear hh
        obtain ⟨e0, h, rfl, g0, hh⟩ := z
        rcases e0 with ⟨t0, n0, f0⟩ | ⟨ci, fs⟩
        · exact g0.elim
        obtain ⟨rfl, gf⟩ := g0
        have z := all2_cons gf
        clear gf
        obtain ⟨v0, fs, rfl, q0, gf⟩ := z
        cases (q0 : v0 = .inr (some (.inl 5)))
        have z := all2_cons gf
        clear gf
        obtain ⟨v0, fs, rfl, q0, gf⟩ := z
        cases (q0 : v0 = .inr (some (.inl 6)))
        have z := all2_cons gf
        clear gf
        obtain ⟨v0, fs, rfl, q0, gf⟩ := z
        cases (q0 : v0 = .inr (some (.inl 7)))
        have z := all2_cons gf
        clear gf
        obtain ⟨v0, fs, rfl, q0, gf⟩ := z
        cases (q0 : v0 = .inr (some (.inl 8)))
        have z := all2_cons gf
        clear gf
        obtain ⟨v0, fs, rfl, q0, gf⟩ := z
        cases (q0 : v0 = .inr (some (.inl 9)))
        have z := all2_cons gf
        clear gf
        obtain ⟨v0, fs, rfl, q0, gf⟩ := z
        cases (q0 : v0 = .inr (some (.inl 10)))
        have z := all2_cons gf
        clear gf
        obtain ⟨v0, fs, rfl, q0, gf⟩ := z
        obtain ⟨Spare_rules, rfl, b_Spare_rules⟩ := q0
        have z := all2_cons gf
        clear gf
        obtain ⟨v0, fs, rfl, q0, gf⟩ := z
        obtain ⟨Spare_steps, rfl, b_Spare_steps⟩ := q0
        have z := all2_cons gf
        clear gf
        obtain ⟨v0, fs, rfl, q0, gf⟩ := z
        obtain ⟨Spare_waiting, rfl, b_Spare_waiting⟩ := q0
        have z := all2_cons gf
        clear gf
        obtain ⟨v0, fs, rfl, q0, gf⟩ := z
        obtain ⟨Spare_refused, rfl, b_Spare_refused⟩ := q0
        cases fs with
        | cons _ _ => exact gf.elim
        | nil =>
          have z := all2_cons hh
          clear hh
          obtain ⟨e1, h, rfl, g1, hh⟩ := z
          rcases e1 with ⟨t1, n1, Spare_kind⟩ | ⟨ci, fs⟩
          rotate_left
          · exact g1.elim
          obtain ⟨et, en, b_Spare_kind⟩ := g1
          cases (et : t1 = 0)
          cases en
          have z := all2_cons hh
          clear hh
          obtain ⟨e1, h, rfl, g1, hh⟩ := z
          rcases e1 with ⟨t1, n1, Spare_worthAt⟩ | ⟨ci, fs⟩
          rotate_left
          · exact g1.elim
          obtain ⟨et, en, b_Spare_worthAt⟩ := g1
          cases (et : t1 = 0)
          cases en
          have z := all2_cons hh
          clear hh
          obtain ⟨e1, h, rfl, g1, hh⟩ := z
          rcases e1 with ⟨t1, n1, Spare_testAt⟩ | ⟨ci, fs⟩
          rotate_left
          · exact g1.elim
          obtain ⟨et, en, b_Spare_testAt⟩ := g1
          cases (et : t1 = 0)
          cases en
          have z := all2_cons hh
          clear hh
          obtain ⟨e1, h, rfl, g1, hh⟩ := z
          rcases e1 with ⟨t1, n1, Spare_step⟩ | ⟨ci, fs⟩
          rotate_left
          · exact g1.elim
          obtain ⟨et, en, b_Spare_step⟩ := g1
          cases (et : t1 = 0)
          cases en
          have z := all2_cons hh
          clear hh
          obtain ⟨e1, h, rfl, g1, hh⟩ := z
          rcases e1 with ⟨t1, n1, Spare_beside⟩ | ⟨ci, fs⟩
          rotate_left
          · exact g1.elim
          obtain ⟨et, en, b_Spare_beside⟩ := g1
          cases (et : t1 = 0)
          cases en
          have z := all2_cons hh
          clear hh
          obtain ⟨e1, h, rfl, g1, hh⟩ := z
          rcases e1 with ⟨t1, n1, Spare_stack⟩ | ⟨ci, fs⟩
          rotate_left
          · exact g1.elim
          obtain ⟨et, en, b_Spare_stack⟩ := g1
          cases (et : t1 = 0)
          cases en
          cases h with
          | cons _ _ => exact hh.elim
          | nil =>
            obtain ⟨s, hs, rfl⟩ := rng_n (x := Tape_size) (k := 260) (by omega) b_Tape_size.2
            have es := sz_n (c := s) (by omega)
            obtain ⟨rF, eF⟩ := rg_x rfl b_Tape_bytes
            refine (c_X11_law_S (o := ob (decA (τ 250))) (n := n) (t := s) h1.1 (by omega) hs (by omega) (fun i hi => ob_ok (by omega) (eF i (by omega)) (rF i (by omega)))).mono (fun r h' hp => ?_)
            obtain ⟨y, K1, K2, K3, f1, f2, ru, at_, ah, fa, sp, hy, hru, hsp, rfl, (⟨w, rfl⟩ | ⟨w, rfl⟩)⟩ := hp
            · exact ⟨y, rfl, hy, Or.inl ⟨w, ⟨⟨rfl, rfl, rfl, rfl, rfl, rfl, rfl, rfl, rfl, rfl, rfl, rfl, rfl, rfl, rfl, gT_mk rfl e_HS_wasKept b_HS_wasKept, trivial⟩, ⟨rfl, rfl, ⟨0, rfl, by decide, by decide⟩, trivial⟩, ⟨rfl, rfl, b_Tape_bytes⟩, ⟨rfl, rfl, topA_ok _, topA_ok _, topA_ok _, topA_ok _, rfl, trivial⟩, ⟨rfl, rfl, rfl, rfl, rfl, rfl, rfl, ⟨_, rfl, hru⟩, ⟨_, rfl, hsp⟩, ⟨_, rfl, b_Spare_waiting⟩, ⟨_, rfl, b_Spare_refused⟩, trivial⟩, ⟨rfl, rfl, of_rg rg_top⟩, ⟨rfl, rfl, of_rg rg_top⟩, ⟨rfl, rfl, of_rg rg_top⟩, ⟨rfl, rfl, of_rg rg_top⟩, ⟨rfl, rfl, of_rg rg_top⟩, ⟨rfl, rfl, b_Spare_stack⟩, trivial⟩⟩⟩
            · exact ⟨y, rfl, hy, Or.inr ⟨w, ⟨⟨rfl, rfl, rfl, rfl, rfl, rfl, rfl, rfl, rfl, rfl, rfl, rfl, rfl, rfl, rfl, gT_mk rfl e_HS_wasKept b_HS_wasKept, trivial⟩, ⟨rfl, rfl, ⟨0, rfl, by decide, by decide⟩, trivial⟩, ⟨rfl, rfl, b_Tape_bytes⟩, ⟨rfl, rfl, topA_ok _, topA_ok _, topA_ok _, topA_ok _, rfl, trivial⟩, ⟨rfl, rfl, rfl, rfl, rfl, rfl, rfl, ⟨_, rfl, hru⟩, ⟨_, rfl, hsp⟩, ⟨_, rfl, b_Spare_waiting⟩, ⟨_, rfl, b_Spare_refused⟩, trivial⟩, ⟨rfl, rfl, of_rg rg_top⟩, ⟨rfl, rfl, of_rg rg_top⟩, ⟨rfl, rfl, of_rg rg_top⟩, ⟨rfl, rfl, of_rg rg_top⟩, ⟨rfl, rfl, of_rg rg_top⟩, ⟨rfl, rfl, b_Spare_stack⟩, trivial⟩⟩⟩

def HX_law160C_R : List AC := hc_47f343bd74
def HY_law160C_R : List AC := hc_302ce35a21
def HZ_law160C_R : List AC := hc_deaa03670c
set_option maxRecDepth 100000 in
theorem x_law160C_R {l : Launch} {n : Nat} (h1 : 1 ≤ n ∧ n ≤ 160) : conOkY (MetP l 103 yX11_law cX11_law 4 (some .int) 0 0) [nI n] HX_law160C_R HY_law160C_R HZ_law160C_R (fun τ y => lwY (ob (decA (τ 250))) n y) := by
  intro τ hΦ h hh
  have z := all2_cons hh
  clear hh
  obtain ⟨e0, h, rfl, g0, hh⟩ := z
  rcases e0 with ⟨t0, n0, f0⟩ | ⟨ci, fs⟩
  · exact g0.elim
  obtain ⟨rfl, gf⟩ := g0
  have z := all2_cons gf
  clear gf
  obtain ⟨v0, fs, rfl, q0, gf⟩ := z
  cases (q0 : v0 = .inr (some (.inl 1)))
  have z := all2_cons gf
  clear gf
  obtain ⟨v0, fs, rfl, q0, gf⟩ := z
  cases gT_r (τ := τ) (t := 0) (v := v0) rfl q0
  have z := all2_cons gf
  clear gf
  obtain ⟨v0, fs, rfl, q0, gf⟩ := z
  cases gT_r (τ := τ) (t := 1) (v := v0) rfl q0
  have z := all2_cons gf
  clear gf
  obtain ⟨v0, fs, rfl, q0, gf⟩ := z
  cases gT_r (τ := τ) (t := 2) (v := v0) rfl q0
  have z := all2_cons gf
  clear gf
  obtain ⟨v0, fs, rfl, q0, gf⟩ := z
  cases gT_r (τ := τ) (t := 3) (v := v0) rfl q0
  have z := all2_cons gf
  clear gf
  obtain ⟨v0, fs, rfl, q0, gf⟩ := z
  cases gT_r (τ := τ) (t := 4) (v := v0) rfl q0
  have z := all2_cons gf
  clear gf
  obtain ⟨v0, fs, rfl, q0, gf⟩ := z
  cases gT_r (τ := τ) (t := 5) (v := v0) rfl q0
  have z := all2_cons gf
  clear gf
  obtain ⟨v0, fs, rfl, q0, gf⟩ := z
  cases gT_r (τ := τ) (t := 6) (v := v0) rfl q0
  have z := all2_cons gf
  clear gf
  obtain ⟨v0, fs, rfl, q0, gf⟩ := z
  cases gT_r (τ := τ) (t := 7) (v := v0) rfl q0
  have z := all2_cons gf
  clear gf
  obtain ⟨v0, fs, rfl, q0, gf⟩ := z
  cases gT_r (τ := τ) (t := 8) (v := v0) rfl q0
  have z := all2_cons gf
  clear gf
  obtain ⟨v0, fs, rfl, q0, gf⟩ := z
  cases (q0 : v0 = .inr (some (.inl 3)))
  have z := all2_cons gf
  clear gf
  obtain ⟨v0, fs, rfl, q0, gf⟩ := z
  cases gT_r (τ := τ) (t := 9) (v := v0) rfl q0
  have z := all2_cons gf
  clear gf
  obtain ⟨v0, fs, rfl, q0, gf⟩ := z
  cases gT_r (τ := τ) (t := 10) (v := v0) rfl q0
  have z := all2_cons gf
  clear gf
  obtain ⟨v0, fs, rfl, q0, gf⟩ := z
  cases (q0 : v0 = .inr (some (.inl 4)))
  have z := all2_cons gf
  clear gf
  obtain ⟨v0, fs, rfl, q0, gf⟩ := z
  obtain ⟨HS_wasKept, rfl, e_HS_wasKept, b_HS_wasKept⟩ := gT_x (τ := τ) (t := 201) (v := v0) rfl q0
  cases fs with
  | cons _ _ => exact gf.elim
  | nil =>
    have z := all2_cons hh
    clear hh
    obtain ⟨e0, h, rfl, g0, hh⟩ := z
    rcases e0 with ⟨t0, n0, f0⟩ | ⟨ci, fs⟩
    · exact g0.elim
    obtain ⟨rfl, gf⟩ := g0
    have z := all2_cons gf
    clear gf
    obtain ⟨v0, fs, rfl, q0, gf⟩ := z
    cases (q0 : v0 = .inr (some (.inl 2)))
    have z := all2_cons gf
    clear gf
    obtain ⟨v0, fs, rfl, q0, gf⟩ := z
    obtain ⟨Tape_size, rfl, b_Tape_size⟩ := q0
    cases fs with
    | cons _ _ => exact gf.elim
    | nil =>
      have z := all2_cons hh
      clear hh
      obtain ⟨e1, h, rfl, g1, hh⟩ := z
      rcases e1 with ⟨t1, n1, Tape_bytes⟩ | ⟨ci, fs⟩
      rotate_left
      · exact g1.elim
      obtain ⟨et, en, b_Tape_bytes⟩ := g1
      cases (et : t1 = 0)
      cases en
      have z := all2_cons hh
      clear hh
      obtain ⟨e0, h, rfl, g0, hh⟩ := z
      rcases e0 with ⟨t0, n0, f0⟩ | ⟨ci, fs⟩
      · exact g0.elim
      obtain ⟨rfl, gf⟩ := g0
      have z := all2_cons gf
      clear gf
      obtain ⟨v0, fs, rfl, q0, gf⟩ := z
      cases (q0 : v0 = .inr (some (.inl 2)))
      have z := all2_cons gf
      clear gf
      obtain ⟨v0, fs, rfl, q0, gf⟩ := z
      obtain ⟨LR_end, rfl, b_LR_end⟩ := q0
      have z := all2_cons gf
      clear gf
      obtain ⟨v0, fs, rfl, q0, gf⟩ := z
      obtain ⟨LR_at, rfl, b_LR_at⟩ := q0
      have z := all2_cons gf
      clear gf
      obtain ⟨v0, fs, rfl, q0, gf⟩ := z
      obtain ⟨LR_ahead, rfl, b_LR_ahead⟩ := q0
      have z := all2_cons gf
      clear gf
      obtain ⟨v0, fs, rfl, q0, gf⟩ := z
      obtain ⟨LR_fault, rfl, b_LR_fault⟩ := q0
      have z := all2_cons gf
      clear gf
      obtain ⟨v0, fs, rfl, q0, gf⟩ := z
      cases gT_r (τ := τ) (t := 10) (v := v0) rfl q0
      cases fs with
      | cons _ _ => exact gf.elim
      | nil =>
        have z := all2_cons hh
        clear hh
        obtain ⟨e0, h, rfl, g0, hh⟩ := z
        rcases e0 with ⟨t0, n0, f0⟩ | ⟨ci, fs⟩
        · exact g0.elim
        obtain ⟨rfl, gf⟩ := g0
        have z := all2_cons gf
        clear gf
        obtain ⟨v0, fs, rfl, q0, gf⟩ := z
        cases (q0 : v0 = .inr (some (.inl 5)))
        have z := all2_cons gf
        clear gf
        obtain ⟨v0, fs, rfl, q0, gf⟩ := z
        cases (q0 : v0 = .inr (some (.inl 6)))
        have z := all2_cons gf
        clear gf
        obtain ⟨v0, fs, rfl, q0, gf⟩ := z
        cases (q0 : v0 = .inr (some (.inl 7)))
        have z := all2_cons gf
        clear gf
        obtain ⟨v0, fs, rfl, q0, gf⟩ := z
        cases (q0 : v0 = .inr (some (.inl 8)))
        have z := all2_cons gf
        clear gf
        obtain ⟨v0, fs, rfl, q0, gf⟩ := z
        cases (q0 : v0 = .inr (some (.inl 9)))
        have z := all2_cons gf
        clear gf
        obtain ⟨v0, fs, rfl, q0, gf⟩ := z
        cases (q0 : v0 = .inr (some (.inl 10)))
        have z := all2_cons gf
        clear gf
        obtain ⟨v0, fs, rfl, q0, gf⟩ := z
        obtain ⟨Spare_rules, rfl, b_Spare_rules⟩ := q0
        have z := all2_cons gf
        clear gf
        obtain ⟨v0, fs, rfl, q0, gf⟩ := z
        obtain ⟨Spare_steps, rfl, b_Spare_steps⟩ := q0
        have z := all2_cons gf
        clear gf
        obtain ⟨v0, fs, rfl, q0, gf⟩ := z
        obtain ⟨Spare_waiting, rfl, b_Spare_waiting⟩ := q0
        have z := all2_cons gf
        clear gf
        obtain ⟨v0, fs, rfl, q0, gf⟩ := z
        obtain ⟨Spare_refused, rfl, b_Spare_refused⟩ := q0
        cases fs with
        | cons _ _ => exact gf.elim
        | nil =>
          have z := all2_cons hh
          clear hh
          obtain ⟨e1, h, rfl, g1, hh⟩ := z
          rcases e1 with ⟨t1, n1, Spare_kind⟩ | ⟨ci, fs⟩
          rotate_left
          · exact g1.elim
          obtain ⟨et, en, b_Spare_kind⟩ := g1
          cases (et : t1 = 0)
          cases en
          have z := all2_cons hh
          clear hh
          obtain ⟨e1, h, rfl, g1, hh⟩ := z
          rcases e1 with ⟨t1, n1, Spare_worthAt⟩ | ⟨ci, fs⟩
          rotate_left
          · exact g1.elim
          obtain ⟨et, en, b_Spare_worthAt⟩ := g1
          cases (et : t1 = 0)
          cases en
          have z := all2_cons hh
          clear hh
          obtain ⟨e1, h, rfl, g1, hh⟩ := z
          rcases e1 with ⟨t1, n1, Spare_testAt⟩ | ⟨ci, fs⟩
          rotate_left
          · exact g1.elim
          obtain ⟨et, en, b_Spare_testAt⟩ := g1
          cases (et : t1 = 0)
          cases en
          have z := all2_cons hh
          clear hh
          obtain ⟨e1, h, rfl, g1, hh⟩ := z
          rcases e1 with ⟨t1, n1, Spare_step⟩ | ⟨ci, fs⟩
          rotate_left
          · exact g1.elim
          obtain ⟨et, en, b_Spare_step⟩ := g1
          cases (et : t1 = 0)
          cases en
          have z := all2_cons hh
          clear hh
          obtain ⟨e1, h, rfl, g1, hh⟩ := z
          rcases e1 with ⟨t1, n1, Spare_beside⟩ | ⟨ci, fs⟩
          rotate_left
          · exact g1.elim
          obtain ⟨et, en, b_Spare_beside⟩ := g1
          cases (et : t1 = 0)
          cases en
          have z := all2_cons hh
          clear hh
          obtain ⟨e1, h, rfl, g1, hh⟩ := z
          rcases e1 with ⟨t1, n1, Spare_stack⟩ | ⟨ci, fs⟩
          rotate_left
          · exact g1.elim
          obtain ⟨et, en, b_Spare_stack⟩ := g1
          cases (et : t1 = 0)
          cases en
          cases h with
          | cons _ _ => exact hh.elim
          | nil =>
            obtain ⟨s, hs, rfl⟩ := rng_n (x := Tape_size) (k := 260) (by omega) b_Tape_size.2
            have es := sz_n (c := s) (by omega)
            obtain ⟨rF, eF⟩ := rg_x rfl b_Tape_bytes
            refine (c_X11_law_R (o := ob (decA (τ 250))) (n := n) (t := s) h1.1 (by omega) hs (by omega) (fun i hi => ob_ok (by omega) (eF i (by omega)) (rF i (by omega)))).mono (fun r h' hp => ?_)
            obtain ⟨y, K1, K2, K3, f1, f2, ru, at_, ah, fa, sp, hy, hru, hsp, rfl, (⟨w, rfl⟩ | ⟨w, rfl⟩)⟩ := hp
            · exact ⟨y, rfl, hy, Or.inl ⟨w, ⟨⟨rfl, rfl, rfl, rfl, rfl, rfl, rfl, rfl, rfl, rfl, rfl, rfl, rfl, rfl, rfl, gT_mk rfl e_HS_wasKept b_HS_wasKept, trivial⟩, ⟨rfl, rfl, ⟨0, rfl, by decide, by decide⟩, trivial⟩, ⟨rfl, rfl, b_Tape_bytes⟩, ⟨rfl, rfl, topA_ok _, topA_ok _, topA_ok _, topA_ok _, rfl, trivial⟩, ⟨rfl, rfl, rfl, rfl, rfl, rfl, rfl, ⟨_, rfl, hru⟩, ⟨_, rfl, hsp⟩, ⟨_, rfl, b_Spare_waiting⟩, ⟨_, rfl, b_Spare_refused⟩, trivial⟩, ⟨rfl, rfl, of_rg rg_top⟩, ⟨rfl, rfl, of_rg rg_top⟩, ⟨rfl, rfl, of_rg rg_top⟩, ⟨rfl, rfl, of_rg rg_top⟩, ⟨rfl, rfl, of_rg rg_top⟩, ⟨rfl, rfl, b_Spare_stack⟩, trivial⟩⟩⟩
            · exact ⟨y, rfl, hy, Or.inr ⟨w, ⟨⟨rfl, rfl, rfl, rfl, rfl, rfl, rfl, rfl, rfl, rfl, rfl, rfl, rfl, rfl, rfl, gT_mk rfl e_HS_wasKept b_HS_wasKept, trivial⟩, ⟨rfl, rfl, ⟨0, rfl, by decide, by decide⟩, trivial⟩, ⟨rfl, rfl, b_Tape_bytes⟩, ⟨rfl, rfl, topA_ok _, topA_ok _, topA_ok _, topA_ok _, rfl, trivial⟩, ⟨rfl, rfl, rfl, rfl, rfl, rfl, rfl, ⟨_, rfl, hru⟩, ⟨_, rfl, hsp⟩, ⟨_, rfl, b_Spare_waiting⟩, ⟨_, rfl, b_Spare_refused⟩, trivial⟩, ⟨rfl, rfl, of_rg rg_top⟩, ⟨rfl, rfl, of_rg rg_top⟩, ⟨rfl, rfl, of_rg rg_top⟩, ⟨rfl, rfl, of_rg rg_top⟩, ⟨rfl, rfl, of_rg rg_top⟩, ⟨rfl, rfl, b_Spare_stack⟩, trivial⟩⟩⟩

def HX_law180C_S : List AC := hc_94adf30e21
def HY_law180C_S : List AC := hc_302ce35a21
def HZ_law180C_S : List AC := hc_deaa03670c
set_option maxRecDepth 100000 in
theorem x_law180C_S {l : Launch} {n : Nat} (h1 : 1 ≤ n ∧ n ≤ 180) : conOkY (MetP l 103 yX11_law cX11_law 4 (some .int) 0 0) [nI n] HX_law180C_S HY_law180C_S HZ_law180C_S (fun τ y => lwY (ob (decA (τ 250))) n y) := by
  intro τ hΦ h hh
  have z := all2_cons hh
  clear hh
  obtain ⟨e0, h, rfl, g0, hh⟩ := z
  rcases e0 with ⟨t0, n0, f0⟩ | ⟨ci, fs⟩
  · exact g0.elim
  obtain ⟨rfl, gf⟩ := g0
  have z := all2_cons gf
  clear gf
  obtain ⟨v0, fs, rfl, q0, gf⟩ := z
  cases (q0 : v0 = .inr (some (.inl 1)))
  have z := all2_cons gf
  clear gf
  obtain ⟨v0, fs, rfl, q0, gf⟩ := z
  cases gT_r (τ := τ) (t := 0) (v := v0) rfl q0
  have z := all2_cons gf
  clear gf
  obtain ⟨v0, fs, rfl, q0, gf⟩ := z
  cases gT_r (τ := τ) (t := 1) (v := v0) rfl q0
  have z := all2_cons gf
  clear gf
  obtain ⟨v0, fs, rfl, q0, gf⟩ := z
  cases gT_r (τ := τ) (t := 2) (v := v0) rfl q0
  have z := all2_cons gf
  clear gf
  obtain ⟨v0, fs, rfl, q0, gf⟩ := z
  cases gT_r (τ := τ) (t := 3) (v := v0) rfl q0
  have z := all2_cons gf
  clear gf
  obtain ⟨v0, fs, rfl, q0, gf⟩ := z
  cases gT_r (τ := τ) (t := 4) (v := v0) rfl q0
  have z := all2_cons gf
  clear gf
  obtain ⟨v0, fs, rfl, q0, gf⟩ := z
  cases gT_r (τ := τ) (t := 5) (v := v0) rfl q0
  have z := all2_cons gf
  clear gf
  obtain ⟨v0, fs, rfl, q0, gf⟩ := z
  cases gT_r (τ := τ) (t := 6) (v := v0) rfl q0
  have z := all2_cons gf
  clear gf
  obtain ⟨v0, fs, rfl, q0, gf⟩ := z
  cases gT_r (τ := τ) (t := 7) (v := v0) rfl q0
  have z := all2_cons gf
  clear gf
  obtain ⟨v0, fs, rfl, q0, gf⟩ := z
  cases gT_r (τ := τ) (t := 8) (v := v0) rfl q0
  have z := all2_cons gf
  clear gf
  obtain ⟨v0, fs, rfl, q0, gf⟩ := z
  cases (q0 : v0 = .inr (some (.inl 3)))
  have z := all2_cons gf
  clear gf
  obtain ⟨v0, fs, rfl, q0, gf⟩ := z
  cases gT_r (τ := τ) (t := 9) (v := v0) rfl q0
  have z := all2_cons gf
  clear gf
  obtain ⟨v0, fs, rfl, q0, gf⟩ := z
  cases gT_r (τ := τ) (t := 10) (v := v0) rfl q0
  have z := all2_cons gf
  clear gf
  obtain ⟨v0, fs, rfl, q0, gf⟩ := z
  cases (q0 : v0 = .inr (some (.inl 4)))
  have z := all2_cons gf
  clear gf
  obtain ⟨v0, fs, rfl, q0, gf⟩ := z
  obtain ⟨HS_wasKept, rfl, e_HS_wasKept, b_HS_wasKept⟩ := gT_x (τ := τ) (t := 201) (v := v0) rfl q0
  cases fs with
  | cons _ _ => exact gf.elim
  | nil =>
    have z := all2_cons hh
    clear hh
    obtain ⟨e0, h, rfl, g0, hh⟩ := z
    rcases e0 with ⟨t0, n0, f0⟩ | ⟨ci, fs⟩
    · exact g0.elim
    obtain ⟨rfl, gf⟩ := g0
    have z := all2_cons gf
    clear gf
    obtain ⟨v0, fs, rfl, q0, gf⟩ := z
    cases (q0 : v0 = .inr (some (.inl 2)))
    have z := all2_cons gf
    clear gf
    obtain ⟨v0, fs, rfl, q0, gf⟩ := z
    obtain ⟨Tape_size, rfl, b_Tape_size⟩ := q0
    cases fs with
    | cons _ _ => exact gf.elim
    | nil =>
      have z := all2_cons hh
      clear hh
      obtain ⟨e1, h, rfl, g1, hh⟩ := z
      rcases e1 with ⟨t1, n1, Tape_bytes⟩ | ⟨ci, fs⟩
      rotate_left
      · exact g1.elim
      obtain ⟨et, en, b_Tape_bytes⟩ := g1
      cases (et : t1 = 0)
      cases en
      have z := all2_cons hh
      clear hh
      obtain ⟨e0, h, rfl, g0, hh⟩ := z
      rcases e0 with ⟨t0, n0, f0⟩ | ⟨ci, fs⟩
      · exact g0.elim
      obtain ⟨rfl, gf⟩ := g0
      have z := all2_cons gf
      clear gf
      obtain ⟨v0, fs, rfl, q0, gf⟩ := z
      cases (q0 : v0 = .inr (some (.inl 2)))
      have z := all2_cons gf
      clear gf
      obtain ⟨v0, fs, rfl, q0, gf⟩ := z
      obtain ⟨LR_end, rfl, b_LR_end⟩ := q0
      have z := all2_cons gf
      clear gf
      obtain ⟨v0, fs, rfl, q0, gf⟩ := z
      obtain ⟨LR_at, rfl, b_LR_at⟩ := q0
      have z := all2_cons gf
      clear gf
      obtain ⟨v0, fs, rfl, q0, gf⟩ := z
      obtain ⟨LR_ahead, rfl, b_LR_ahead⟩ := q0
      have z := all2_cons gf
      clear gf
      obtain ⟨v0, fs, rfl, q0, gf⟩ := z
      obtain ⟨LR_fault, rfl, b_LR_fault⟩ := q0
      have z := all2_cons gf
      clear gf
      obtain ⟨v0, fs, rfl, q0, gf⟩ := z
      cases (q0 : v0 = .inr (some (.inl 4)))
      cases fs with
      | cons _ _ => exact gf.elim
      | nil =>
        have z := all2_cons hh
        clear hh
        obtain ⟨e0, h, rfl, g0, hh⟩ := z
        rcases e0 with ⟨t0, n0, f0⟩ | ⟨ci, fs⟩
        · exact g0.elim
        obtain ⟨rfl, gf⟩ := g0
        have z := all2_cons gf
        clear gf
        obtain ⟨v0, fs, rfl, q0, gf⟩ := z
        cases (q0 : v0 = .inr (some (.inl 5)))
        have z := all2_cons gf
        clear gf
        obtain ⟨v0, fs, rfl, q0, gf⟩ := z
        cases (q0 : v0 = .inr (some (.inl 6)))
        have z := all2_cons gf
        clear gf
        obtain ⟨v0, fs, rfl, q0, gf⟩ := z
        cases (q0 : v0 = .inr (some (.inl 7)))
        have z := all2_cons gf
        clear gf
        obtain ⟨v0, fs, rfl, q0, gf⟩ := z
        cases (q0 : v0 = .inr (some (.inl 8)))
        have z := all2_cons gf
        clear gf
        obtain ⟨v0, fs, rfl, q0, gf⟩ := z
        cases (q0 : v0 = .inr (some (.inl 9)))
        have z := all2_cons gf
        clear gf
        obtain ⟨v0, fs, rfl, q0, gf⟩ := z
        cases (q0 : v0 = .inr (some (.inl 10)))
        have z := all2_cons gf
        clear gf
        obtain ⟨v0, fs, rfl, q0, gf⟩ := z
        obtain ⟨Spare_rules, rfl, b_Spare_rules⟩ := q0
        have z := all2_cons gf
        clear gf
        obtain ⟨v0, fs, rfl, q0, gf⟩ := z
        obtain ⟨Spare_steps, rfl, b_Spare_steps⟩ := q0
        have z := all2_cons gf
        clear gf
        obtain ⟨v0, fs, rfl, q0, gf⟩ := z
        obtain ⟨Spare_waiting, rfl, b_Spare_waiting⟩ := q0
        have z := all2_cons gf
        clear gf
        obtain ⟨v0, fs, rfl, q0, gf⟩ := z
        obtain ⟨Spare_refused, rfl, b_Spare_refused⟩ := q0
        cases fs with
        | cons _ _ => exact gf.elim
        | nil =>
          have z := all2_cons hh
          clear hh
          obtain ⟨e1, h, rfl, g1, hh⟩ := z
          rcases e1 with ⟨t1, n1, Spare_kind⟩ | ⟨ci, fs⟩
          rotate_left
          · exact g1.elim
          obtain ⟨et, en, b_Spare_kind⟩ := g1
          cases (et : t1 = 0)
          cases en
          have z := all2_cons hh
          clear hh
          obtain ⟨e1, h, rfl, g1, hh⟩ := z
          rcases e1 with ⟨t1, n1, Spare_worthAt⟩ | ⟨ci, fs⟩
          rotate_left
          · exact g1.elim
          obtain ⟨et, en, b_Spare_worthAt⟩ := g1
          cases (et : t1 = 0)
          cases en
          have z := all2_cons hh
          clear hh
          obtain ⟨e1, h, rfl, g1, hh⟩ := z
          rcases e1 with ⟨t1, n1, Spare_testAt⟩ | ⟨ci, fs⟩
          rotate_left
          · exact g1.elim
          obtain ⟨et, en, b_Spare_testAt⟩ := g1
          cases (et : t1 = 0)
          cases en
          have z := all2_cons hh
          clear hh
          obtain ⟨e1, h, rfl, g1, hh⟩ := z
          rcases e1 with ⟨t1, n1, Spare_step⟩ | ⟨ci, fs⟩
          rotate_left
          · exact g1.elim
          obtain ⟨et, en, b_Spare_step⟩ := g1
          cases (et : t1 = 0)
          cases en
          have z := all2_cons hh
          clear hh
          obtain ⟨e1, h, rfl, g1, hh⟩ := z
          rcases e1 with ⟨t1, n1, Spare_beside⟩ | ⟨ci, fs⟩
          rotate_left
          · exact g1.elim
          obtain ⟨et, en, b_Spare_beside⟩ := g1
          cases (et : t1 = 0)
          cases en
          have z := all2_cons hh
          clear hh
          obtain ⟨e1, h, rfl, g1, hh⟩ := z
          rcases e1 with ⟨t1, n1, Spare_stack⟩ | ⟨ci, fs⟩
          rotate_left
          · exact g1.elim
          obtain ⟨et, en, b_Spare_stack⟩ := g1
          cases (et : t1 = 0)
          cases en
          cases h with
          | cons _ _ => exact hh.elim
          | nil =>
            obtain ⟨s, hs, rfl⟩ := rng_n (x := Tape_size) (k := 260) (by omega) b_Tape_size.2
            have es := sz_n (c := s) (by omega)
            obtain ⟨rF, eF⟩ := rg_x rfl b_Tape_bytes
            refine (c_X11_law_S (o := ob (decA (τ 250))) (n := n) (t := s) h1.1 (by omega) hs (by omega) (fun i hi => ob_ok (by omega) (eF i (by omega)) (rF i (by omega)))).mono (fun r h' hp => ?_)
            obtain ⟨y, K1, K2, K3, f1, f2, ru, at_, ah, fa, sp, hy, hru, hsp, rfl, (⟨w, rfl⟩ | ⟨w, rfl⟩)⟩ := hp
            · exact ⟨y, rfl, hy, Or.inl ⟨w, ⟨⟨rfl, rfl, rfl, rfl, rfl, rfl, rfl, rfl, rfl, rfl, rfl, rfl, rfl, rfl, rfl, gT_mk rfl e_HS_wasKept b_HS_wasKept, trivial⟩, ⟨rfl, rfl, ⟨0, rfl, by decide, by decide⟩, trivial⟩, ⟨rfl, rfl, b_Tape_bytes⟩, ⟨rfl, rfl, topA_ok _, topA_ok _, topA_ok _, topA_ok _, rfl, trivial⟩, ⟨rfl, rfl, rfl, rfl, rfl, rfl, rfl, ⟨_, rfl, hru⟩, ⟨_, rfl, hsp⟩, ⟨_, rfl, b_Spare_waiting⟩, ⟨_, rfl, b_Spare_refused⟩, trivial⟩, ⟨rfl, rfl, of_rg rg_top⟩, ⟨rfl, rfl, of_rg rg_top⟩, ⟨rfl, rfl, of_rg rg_top⟩, ⟨rfl, rfl, of_rg rg_top⟩, ⟨rfl, rfl, of_rg rg_top⟩, ⟨rfl, rfl, b_Spare_stack⟩, trivial⟩⟩⟩
            · exact ⟨y, rfl, hy, Or.inr ⟨w, ⟨⟨rfl, rfl, rfl, rfl, rfl, rfl, rfl, rfl, rfl, rfl, rfl, rfl, rfl, rfl, rfl, gT_mk rfl e_HS_wasKept b_HS_wasKept, trivial⟩, ⟨rfl, rfl, ⟨0, rfl, by decide, by decide⟩, trivial⟩, ⟨rfl, rfl, b_Tape_bytes⟩, ⟨rfl, rfl, topA_ok _, topA_ok _, topA_ok _, topA_ok _, rfl, trivial⟩, ⟨rfl, rfl, rfl, rfl, rfl, rfl, rfl, ⟨_, rfl, hru⟩, ⟨_, rfl, hsp⟩, ⟨_, rfl, b_Spare_waiting⟩, ⟨_, rfl, b_Spare_refused⟩, trivial⟩, ⟨rfl, rfl, of_rg rg_top⟩, ⟨rfl, rfl, of_rg rg_top⟩, ⟨rfl, rfl, of_rg rg_top⟩, ⟨rfl, rfl, of_rg rg_top⟩, ⟨rfl, rfl, of_rg rg_top⟩, ⟨rfl, rfl, b_Spare_stack⟩, trivial⟩⟩⟩

def HX_law180C_R : List AC := hc_07651cdfd8
def HY_law180C_R : List AC := hc_302ce35a21
def HZ_law180C_R : List AC := hc_deaa03670c
set_option maxRecDepth 100000 in
theorem x_law180C_R {l : Launch} {n : Nat} (h1 : 1 ≤ n ∧ n ≤ 180) : conOkY (MetP l 103 yX11_law cX11_law 4 (some .int) 0 0) [nI n] HX_law180C_R HY_law180C_R HZ_law180C_R (fun τ y => lwY (ob (decA (τ 250))) n y) := by
  intro τ hΦ h hh
  have z := all2_cons hh
  clear hh
  obtain ⟨e0, h, rfl, g0, hh⟩ := z
  rcases e0 with ⟨t0, n0, f0⟩ | ⟨ci, fs⟩
  · exact g0.elim
  obtain ⟨rfl, gf⟩ := g0
  have z := all2_cons gf
  clear gf
  obtain ⟨v0, fs, rfl, q0, gf⟩ := z
  cases (q0 : v0 = .inr (some (.inl 1)))
  have z := all2_cons gf
  clear gf
  obtain ⟨v0, fs, rfl, q0, gf⟩ := z
  cases gT_r (τ := τ) (t := 0) (v := v0) rfl q0
  have z := all2_cons gf
  clear gf
  obtain ⟨v0, fs, rfl, q0, gf⟩ := z
  cases gT_r (τ := τ) (t := 1) (v := v0) rfl q0
  have z := all2_cons gf
  clear gf
  obtain ⟨v0, fs, rfl, q0, gf⟩ := z
  cases gT_r (τ := τ) (t := 2) (v := v0) rfl q0
  have z := all2_cons gf
  clear gf
  obtain ⟨v0, fs, rfl, q0, gf⟩ := z
  cases gT_r (τ := τ) (t := 3) (v := v0) rfl q0
  have z := all2_cons gf
  clear gf
  obtain ⟨v0, fs, rfl, q0, gf⟩ := z
  cases gT_r (τ := τ) (t := 4) (v := v0) rfl q0
  have z := all2_cons gf
  clear gf
  obtain ⟨v0, fs, rfl, q0, gf⟩ := z
  cases gT_r (τ := τ) (t := 5) (v := v0) rfl q0
  have z := all2_cons gf
  clear gf
  obtain ⟨v0, fs, rfl, q0, gf⟩ := z
  cases gT_r (τ := τ) (t := 6) (v := v0) rfl q0
  have z := all2_cons gf
  clear gf
  obtain ⟨v0, fs, rfl, q0, gf⟩ := z
  cases gT_r (τ := τ) (t := 7) (v := v0) rfl q0
  have z := all2_cons gf
  clear gf
  obtain ⟨v0, fs, rfl, q0, gf⟩ := z
  cases gT_r (τ := τ) (t := 8) (v := v0) rfl q0
  have z := all2_cons gf
  clear gf
  obtain ⟨v0, fs, rfl, q0, gf⟩ := z
  cases (q0 : v0 = .inr (some (.inl 3)))
  have z := all2_cons gf
  clear gf
  obtain ⟨v0, fs, rfl, q0, gf⟩ := z
  cases gT_r (τ := τ) (t := 9) (v := v0) rfl q0
  have z := all2_cons gf
  clear gf
  obtain ⟨v0, fs, rfl, q0, gf⟩ := z
  cases gT_r (τ := τ) (t := 10) (v := v0) rfl q0
  have z := all2_cons gf
  clear gf
  obtain ⟨v0, fs, rfl, q0, gf⟩ := z
  cases (q0 : v0 = .inr (some (.inl 4)))
  have z := all2_cons gf
  clear gf
  obtain ⟨v0, fs, rfl, q0, gf⟩ := z
  obtain ⟨HS_wasKept, rfl, e_HS_wasKept, b_HS_wasKept⟩ := gT_x (τ := τ) (t := 201) (v := v0) rfl q0
  cases fs with
  | cons _ _ => exact gf.elim
  | nil =>
    have z := all2_cons hh
    clear hh
    obtain ⟨e0, h, rfl, g0, hh⟩ := z
    rcases e0 with ⟨t0, n0, f0⟩ | ⟨ci, fs⟩
    · exact g0.elim
    obtain ⟨rfl, gf⟩ := g0
    have z := all2_cons gf
    clear gf
    obtain ⟨v0, fs, rfl, q0, gf⟩ := z
    cases (q0 : v0 = .inr (some (.inl 2)))
    have z := all2_cons gf
    clear gf
    obtain ⟨v0, fs, rfl, q0, gf⟩ := z
    obtain ⟨Tape_size, rfl, b_Tape_size⟩ := q0
    cases fs with
    | cons _ _ => exact gf.elim
    | nil =>
      have z := all2_cons hh
      clear hh
      obtain ⟨e1, h, rfl, g1, hh⟩ := z
      rcases e1 with ⟨t1, n1, Tape_bytes⟩ | ⟨ci, fs⟩
      rotate_left
      · exact g1.elim
      obtain ⟨et, en, b_Tape_bytes⟩ := g1
      cases (et : t1 = 0)
      cases en
      have z := all2_cons hh
      clear hh
      obtain ⟨e0, h, rfl, g0, hh⟩ := z
      rcases e0 with ⟨t0, n0, f0⟩ | ⟨ci, fs⟩
      · exact g0.elim
      obtain ⟨rfl, gf⟩ := g0
      have z := all2_cons gf
      clear gf
      obtain ⟨v0, fs, rfl, q0, gf⟩ := z
      cases (q0 : v0 = .inr (some (.inl 2)))
      have z := all2_cons gf
      clear gf
      obtain ⟨v0, fs, rfl, q0, gf⟩ := z
      obtain ⟨LR_end, rfl, b_LR_end⟩ := q0
      have z := all2_cons gf
      clear gf
      obtain ⟨v0, fs, rfl, q0, gf⟩ := z
      obtain ⟨LR_at, rfl, b_LR_at⟩ := q0
      have z := all2_cons gf
      clear gf
      obtain ⟨v0, fs, rfl, q0, gf⟩ := z
      obtain ⟨LR_ahead, rfl, b_LR_ahead⟩ := q0
      have z := all2_cons gf
      clear gf
      obtain ⟨v0, fs, rfl, q0, gf⟩ := z
      obtain ⟨LR_fault, rfl, b_LR_fault⟩ := q0
      have z := all2_cons gf
      clear gf
      obtain ⟨v0, fs, rfl, q0, gf⟩ := z
      cases gT_r (τ := τ) (t := 10) (v := v0) rfl q0
      cases fs with
      | cons _ _ => exact gf.elim
      | nil =>
        have z := all2_cons hh
        clear hh
        obtain ⟨e0, h, rfl, g0, hh⟩ := z
        rcases e0 with ⟨t0, n0, f0⟩ | ⟨ci, fs⟩
        · exact g0.elim
        obtain ⟨rfl, gf⟩ := g0
        have z := all2_cons gf
        clear gf
        obtain ⟨v0, fs, rfl, q0, gf⟩ := z
        cases (q0 : v0 = .inr (some (.inl 5)))
        have z := all2_cons gf
        clear gf
        obtain ⟨v0, fs, rfl, q0, gf⟩ := z
        cases (q0 : v0 = .inr (some (.inl 6)))
        have z := all2_cons gf
        clear gf
        obtain ⟨v0, fs, rfl, q0, gf⟩ := z
        cases (q0 : v0 = .inr (some (.inl 7)))
        have z := all2_cons gf
        clear gf
        obtain ⟨v0, fs, rfl, q0, gf⟩ := z
        cases (q0 : v0 = .inr (some (.inl 8)))
        have z := all2_cons gf
        clear gf
        obtain ⟨v0, fs, rfl, q0, gf⟩ := z
        cases (q0 : v0 = .inr (some (.inl 9)))
        have z := all2_cons gf
        clear gf
        obtain ⟨v0, fs, rfl, q0, gf⟩ := z
        cases (q0 : v0 = .inr (some (.inl 10)))
        have z := all2_cons gf
        clear gf
        obtain ⟨v0, fs, rfl, q0, gf⟩ := z
        obtain ⟨Spare_rules, rfl, b_Spare_rules⟩ := q0
        have z := all2_cons gf
        clear gf
        obtain ⟨v0, fs, rfl, q0, gf⟩ := z
        obtain ⟨Spare_steps, rfl, b_Spare_steps⟩ := q0
        have z := all2_cons gf
        clear gf
        obtain ⟨v0, fs, rfl, q0, gf⟩ := z
        obtain ⟨Spare_waiting, rfl, b_Spare_waiting⟩ := q0
        have z := all2_cons gf
        clear gf
        obtain ⟨v0, fs, rfl, q0, gf⟩ := z
        obtain ⟨Spare_refused, rfl, b_Spare_refused⟩ := q0
        cases fs with
        | cons _ _ => exact gf.elim
        | nil =>
          have z := all2_cons hh
          clear hh
          obtain ⟨e1, h, rfl, g1, hh⟩ := z
          rcases e1 with ⟨t1, n1, Spare_kind⟩ | ⟨ci, fs⟩
          rotate_left
          · exact g1.elim
          obtain ⟨et, en, b_Spare_kind⟩ := g1
          cases (et : t1 = 0)
          cases en
          have z := all2_cons hh
          clear hh
          obtain ⟨e1, h, rfl, g1, hh⟩ := z
          rcases e1 with ⟨t1, n1, Spare_worthAt⟩ | ⟨ci, fs⟩
          rotate_left
          · exact g1.elim
          obtain ⟨et, en, b_Spare_worthAt⟩ := g1
          cases (et : t1 = 0)
          cases en
          have z := all2_cons hh
          clear hh
          obtain ⟨e1, h, rfl, g1, hh⟩ := z
          rcases e1 with ⟨t1, n1, Spare_testAt⟩ | ⟨ci, fs⟩
          rotate_left
          · exact g1.elim
          obtain ⟨et, en, b_Spare_testAt⟩ := g1
          cases (et : t1 = 0)
          cases en
          have z := all2_cons hh
          clear hh
          obtain ⟨e1, h, rfl, g1, hh⟩ := z
          rcases e1 with ⟨t1, n1, Spare_step⟩ | ⟨ci, fs⟩
          rotate_left
          · exact g1.elim
          obtain ⟨et, en, b_Spare_step⟩ := g1
          cases (et : t1 = 0)
          cases en
          have z := all2_cons hh
          clear hh
          obtain ⟨e1, h, rfl, g1, hh⟩ := z
          rcases e1 with ⟨t1, n1, Spare_beside⟩ | ⟨ci, fs⟩
          rotate_left
          · exact g1.elim
          obtain ⟨et, en, b_Spare_beside⟩ := g1
          cases (et : t1 = 0)
          cases en
          have z := all2_cons hh
          clear hh
          obtain ⟨e1, h, rfl, g1, hh⟩ := z
          rcases e1 with ⟨t1, n1, Spare_stack⟩ | ⟨ci, fs⟩
          rotate_left
          · exact g1.elim
          obtain ⟨et, en, b_Spare_stack⟩ := g1
          cases (et : t1 = 0)
          cases en
          cases h with
          | cons _ _ => exact hh.elim
          | nil =>
            obtain ⟨s, hs, rfl⟩ := rng_n (x := Tape_size) (k := 260) (by omega) b_Tape_size.2
            have es := sz_n (c := s) (by omega)
            obtain ⟨rF, eF⟩ := rg_x rfl b_Tape_bytes
            refine (c_X11_law_R (o := ob (decA (τ 250))) (n := n) (t := s) h1.1 (by omega) hs (by omega) (fun i hi => ob_ok (by omega) (eF i (by omega)) (rF i (by omega)))).mono (fun r h' hp => ?_)
            obtain ⟨y, K1, K2, K3, f1, f2, ru, at_, ah, fa, sp, hy, hru, hsp, rfl, (⟨w, rfl⟩ | ⟨w, rfl⟩)⟩ := hp
            · exact ⟨y, rfl, hy, Or.inl ⟨w, ⟨⟨rfl, rfl, rfl, rfl, rfl, rfl, rfl, rfl, rfl, rfl, rfl, rfl, rfl, rfl, rfl, gT_mk rfl e_HS_wasKept b_HS_wasKept, trivial⟩, ⟨rfl, rfl, ⟨0, rfl, by decide, by decide⟩, trivial⟩, ⟨rfl, rfl, b_Tape_bytes⟩, ⟨rfl, rfl, topA_ok _, topA_ok _, topA_ok _, topA_ok _, rfl, trivial⟩, ⟨rfl, rfl, rfl, rfl, rfl, rfl, rfl, ⟨_, rfl, hru⟩, ⟨_, rfl, hsp⟩, ⟨_, rfl, b_Spare_waiting⟩, ⟨_, rfl, b_Spare_refused⟩, trivial⟩, ⟨rfl, rfl, of_rg rg_top⟩, ⟨rfl, rfl, of_rg rg_top⟩, ⟨rfl, rfl, of_rg rg_top⟩, ⟨rfl, rfl, of_rg rg_top⟩, ⟨rfl, rfl, of_rg rg_top⟩, ⟨rfl, rfl, b_Spare_stack⟩, trivial⟩⟩⟩
            · exact ⟨y, rfl, hy, Or.inr ⟨w, ⟨⟨rfl, rfl, rfl, rfl, rfl, rfl, rfl, rfl, rfl, rfl, rfl, rfl, rfl, rfl, rfl, gT_mk rfl e_HS_wasKept b_HS_wasKept, trivial⟩, ⟨rfl, rfl, ⟨0, rfl, by decide, by decide⟩, trivial⟩, ⟨rfl, rfl, b_Tape_bytes⟩, ⟨rfl, rfl, topA_ok _, topA_ok _, topA_ok _, topA_ok _, rfl, trivial⟩, ⟨rfl, rfl, rfl, rfl, rfl, rfl, rfl, ⟨_, rfl, hru⟩, ⟨_, rfl, hsp⟩, ⟨_, rfl, b_Spare_waiting⟩, ⟨_, rfl, b_Spare_refused⟩, trivial⟩, ⟨rfl, rfl, of_rg rg_top⟩, ⟨rfl, rfl, of_rg rg_top⟩, ⟨rfl, rfl, of_rg rg_top⟩, ⟨rfl, rfl, of_rg rg_top⟩, ⟨rfl, rfl, of_rg rg_top⟩, ⟨rfl, rfl, b_Spare_stack⟩, trivial⟩⟩⟩

def HX_law200C_S : List AC := hc_8522ef00be
def HY_law200C_S : List AC := hc_302ce35a21
def HZ_law200C_S : List AC := hc_deaa03670c
set_option maxRecDepth 100000 in
theorem x_law200C_S {l : Launch} {n : Nat} (h1 : 1 ≤ n ∧ n ≤ 200) : conOkY (MetP l 103 yX11_law cX11_law 4 (some .int) 0 0) [nI n] HX_law200C_S HY_law200C_S HZ_law200C_S (fun τ y => lwY (ob (decA (τ 250))) n y) := by
  intro τ hΦ h hh
  have z := all2_cons hh
  clear hh
  obtain ⟨e0, h, rfl, g0, hh⟩ := z
  rcases e0 with ⟨t0, n0, f0⟩ | ⟨ci, fs⟩
  · exact g0.elim
  obtain ⟨rfl, gf⟩ := g0
  have z := all2_cons gf
  clear gf
  obtain ⟨v0, fs, rfl, q0, gf⟩ := z
  cases (q0 : v0 = .inr (some (.inl 1)))
  have z := all2_cons gf
  clear gf
  obtain ⟨v0, fs, rfl, q0, gf⟩ := z
  cases gT_r (τ := τ) (t := 0) (v := v0) rfl q0
  have z := all2_cons gf
  clear gf
  obtain ⟨v0, fs, rfl, q0, gf⟩ := z
  cases gT_r (τ := τ) (t := 1) (v := v0) rfl q0
  have z := all2_cons gf
  clear gf
  obtain ⟨v0, fs, rfl, q0, gf⟩ := z
  cases gT_r (τ := τ) (t := 2) (v := v0) rfl q0
  have z := all2_cons gf
  clear gf
  obtain ⟨v0, fs, rfl, q0, gf⟩ := z
  cases gT_r (τ := τ) (t := 3) (v := v0) rfl q0
  have z := all2_cons gf
  clear gf
  obtain ⟨v0, fs, rfl, q0, gf⟩ := z
  cases gT_r (τ := τ) (t := 4) (v := v0) rfl q0
  have z := all2_cons gf
  clear gf
  obtain ⟨v0, fs, rfl, q0, gf⟩ := z
  cases gT_r (τ := τ) (t := 5) (v := v0) rfl q0
  have z := all2_cons gf
  clear gf
  obtain ⟨v0, fs, rfl, q0, gf⟩ := z
  cases gT_r (τ := τ) (t := 6) (v := v0) rfl q0
  have z := all2_cons gf
  clear gf
  obtain ⟨v0, fs, rfl, q0, gf⟩ := z
  cases gT_r (τ := τ) (t := 7) (v := v0) rfl q0
  have z := all2_cons gf
  clear gf
  obtain ⟨v0, fs, rfl, q0, gf⟩ := z
  cases gT_r (τ := τ) (t := 8) (v := v0) rfl q0
  have z := all2_cons gf
  clear gf
  obtain ⟨v0, fs, rfl, q0, gf⟩ := z
  cases (q0 : v0 = .inr (some (.inl 3)))
  have z := all2_cons gf
  clear gf
  obtain ⟨v0, fs, rfl, q0, gf⟩ := z
  cases gT_r (τ := τ) (t := 9) (v := v0) rfl q0
  have z := all2_cons gf
  clear gf
  obtain ⟨v0, fs, rfl, q0, gf⟩ := z
  cases gT_r (τ := τ) (t := 10) (v := v0) rfl q0
  have z := all2_cons gf
  clear gf
  obtain ⟨v0, fs, rfl, q0, gf⟩ := z
  cases (q0 : v0 = .inr (some (.inl 4)))
  have z := all2_cons gf
  clear gf
  obtain ⟨v0, fs, rfl, q0, gf⟩ := z
  obtain ⟨HS_wasKept, rfl, e_HS_wasKept, b_HS_wasKept⟩ := gT_x (τ := τ) (t := 201) (v := v0) rfl q0
  cases fs with
  | cons _ _ => exact gf.elim
  | nil =>
    have z := all2_cons hh
    clear hh
    obtain ⟨e0, h, rfl, g0, hh⟩ := z
    rcases e0 with ⟨t0, n0, f0⟩ | ⟨ci, fs⟩
    · exact g0.elim
    obtain ⟨rfl, gf⟩ := g0
    have z := all2_cons gf
    clear gf
    obtain ⟨v0, fs, rfl, q0, gf⟩ := z
    cases (q0 : v0 = .inr (some (.inl 2)))
    have z := all2_cons gf
    clear gf
    obtain ⟨v0, fs, rfl, q0, gf⟩ := z
    obtain ⟨Tape_size, rfl, b_Tape_size⟩ := q0
    cases fs with
    | cons _ _ => exact gf.elim
    | nil =>
      have z := all2_cons hh
      clear hh
      obtain ⟨e1, h, rfl, g1, hh⟩ := z
      rcases e1 with ⟨t1, n1, Tape_bytes⟩ | ⟨ci, fs⟩
      rotate_left
      · exact g1.elim
      obtain ⟨et, en, b_Tape_bytes⟩ := g1
      cases (et : t1 = 0)
      cases en
      have z := all2_cons hh
      clear hh
      obtain ⟨e0, h, rfl, g0, hh⟩ := z
      rcases e0 with ⟨t0, n0, f0⟩ | ⟨ci, fs⟩
      · exact g0.elim
      obtain ⟨rfl, gf⟩ := g0
      have z := all2_cons gf
      clear gf
      obtain ⟨v0, fs, rfl, q0, gf⟩ := z
      cases (q0 : v0 = .inr (some (.inl 2)))
      have z := all2_cons gf
      clear gf
      obtain ⟨v0, fs, rfl, q0, gf⟩ := z
      obtain ⟨LR_end, rfl, b_LR_end⟩ := q0
      have z := all2_cons gf
      clear gf
      obtain ⟨v0, fs, rfl, q0, gf⟩ := z
      obtain ⟨LR_at, rfl, b_LR_at⟩ := q0
      have z := all2_cons gf
      clear gf
      obtain ⟨v0, fs, rfl, q0, gf⟩ := z
      obtain ⟨LR_ahead, rfl, b_LR_ahead⟩ := q0
      have z := all2_cons gf
      clear gf
      obtain ⟨v0, fs, rfl, q0, gf⟩ := z
      obtain ⟨LR_fault, rfl, b_LR_fault⟩ := q0
      have z := all2_cons gf
      clear gf
      obtain ⟨v0, fs, rfl, q0, gf⟩ := z
      cases (q0 : v0 = .inr (some (.inl 4)))
      cases fs with
      | cons _ _ => exact gf.elim
      | nil =>
        have z := all2_cons hh
        clear hh
        obtain ⟨e0, h, rfl, g0, hh⟩ := z
        rcases e0 with ⟨t0, n0, f0⟩ | ⟨ci, fs⟩
        · exact g0.elim
        obtain ⟨rfl, gf⟩ := g0
        have z := all2_cons gf
        clear gf
        obtain ⟨v0, fs, rfl, q0, gf⟩ := z
        cases (q0 : v0 = .inr (some (.inl 5)))
        have z := all2_cons gf
        clear gf
        obtain ⟨v0, fs, rfl, q0, gf⟩ := z
        cases (q0 : v0 = .inr (some (.inl 6)))
        have z := all2_cons gf
        clear gf
        obtain ⟨v0, fs, rfl, q0, gf⟩ := z
        cases (q0 : v0 = .inr (some (.inl 7)))
        have z := all2_cons gf
        clear gf
        obtain ⟨v0, fs, rfl, q0, gf⟩ := z
        cases (q0 : v0 = .inr (some (.inl 8)))
        have z := all2_cons gf
        clear gf
        obtain ⟨v0, fs, rfl, q0, gf⟩ := z
        cases (q0 : v0 = .inr (some (.inl 9)))
        have z := all2_cons gf
        clear gf
        obtain ⟨v0, fs, rfl, q0, gf⟩ := z
        cases (q0 : v0 = .inr (some (.inl 10)))
        have z := all2_cons gf
        clear gf
        obtain ⟨v0, fs, rfl, q0, gf⟩ := z
        obtain ⟨Spare_rules, rfl, b_Spare_rules⟩ := q0
        have z := all2_cons gf
        clear gf
        obtain ⟨v0, fs, rfl, q0, gf⟩ := z
        obtain ⟨Spare_steps, rfl, b_Spare_steps⟩ := q0
        have z := all2_cons gf
        clear gf
        obtain ⟨v0, fs, rfl, q0, gf⟩ := z
        obtain ⟨Spare_waiting, rfl, b_Spare_waiting⟩ := q0
        have z := all2_cons gf
        clear gf
        obtain ⟨v0, fs, rfl, q0, gf⟩ := z
        obtain ⟨Spare_refused, rfl, b_Spare_refused⟩ := q0
        cases fs with
        | cons _ _ => exact gf.elim
        | nil =>
          have z := all2_cons hh
          clear hh
          obtain ⟨e1, h, rfl, g1, hh⟩ := z
          rcases e1 with ⟨t1, n1, Spare_kind⟩ | ⟨ci, fs⟩
          rotate_left
          · exact g1.elim
          obtain ⟨et, en, b_Spare_kind⟩ := g1
          cases (et : t1 = 0)
          cases en
          have z := all2_cons hh
          clear hh
          obtain ⟨e1, h, rfl, g1, hh⟩ := z
          rcases e1 with ⟨t1, n1, Spare_worthAt⟩ | ⟨ci, fs⟩
          rotate_left
          · exact g1.elim
          obtain ⟨et, en, b_Spare_worthAt⟩ := g1
          cases (et : t1 = 0)
          cases en
          have z := all2_cons hh
          clear hh
          obtain ⟨e1, h, rfl, g1, hh⟩ := z
          rcases e1 with ⟨t1, n1, Spare_testAt⟩ | ⟨ci, fs⟩
          rotate_left
          · exact g1.elim
          obtain ⟨et, en, b_Spare_testAt⟩ := g1
          cases (et : t1 = 0)
          cases en
          have z := all2_cons hh
          clear hh
          obtain ⟨e1, h, rfl, g1, hh⟩ := z
          rcases e1 with ⟨t1, n1, Spare_step⟩ | ⟨ci, fs⟩
          rotate_left
          · exact g1.elim
          obtain ⟨et, en, b_Spare_step⟩ := g1
          cases (et : t1 = 0)
          cases en
          have z := all2_cons hh
          clear hh
          obtain ⟨e1, h, rfl, g1, hh⟩ := z
          rcases e1 with ⟨t1, n1, Spare_beside⟩ | ⟨ci, fs⟩
          rotate_left
          · exact g1.elim
          obtain ⟨et, en, b_Spare_beside⟩ := g1
          cases (et : t1 = 0)
          cases en
          have z := all2_cons hh
          clear hh
          obtain ⟨e1, h, rfl, g1, hh⟩ := z
          rcases e1 with ⟨t1, n1, Spare_stack⟩ | ⟨ci, fs⟩
          rotate_left
          · exact g1.elim
          obtain ⟨et, en, b_Spare_stack⟩ := g1
          cases (et : t1 = 0)
          cases en
          cases h with
          | cons _ _ => exact hh.elim
          | nil =>
            obtain ⟨s, hs, rfl⟩ := rng_n (x := Tape_size) (k := 260) (by omega) b_Tape_size.2
            have es := sz_n (c := s) (by omega)
            obtain ⟨rF, eF⟩ := rg_x rfl b_Tape_bytes
            refine (c_X11_law_S (o := ob (decA (τ 250))) (n := n) (t := s) h1.1 (by omega) hs (by omega) (fun i hi => ob_ok (by omega) (eF i (by omega)) (rF i (by omega)))).mono (fun r h' hp => ?_)
            obtain ⟨y, K1, K2, K3, f1, f2, ru, at_, ah, fa, sp, hy, hru, hsp, rfl, (⟨w, rfl⟩ | ⟨w, rfl⟩)⟩ := hp
            · exact ⟨y, rfl, hy, Or.inl ⟨w, ⟨⟨rfl, rfl, rfl, rfl, rfl, rfl, rfl, rfl, rfl, rfl, rfl, rfl, rfl, rfl, rfl, gT_mk rfl e_HS_wasKept b_HS_wasKept, trivial⟩, ⟨rfl, rfl, ⟨0, rfl, by decide, by decide⟩, trivial⟩, ⟨rfl, rfl, b_Tape_bytes⟩, ⟨rfl, rfl, topA_ok _, topA_ok _, topA_ok _, topA_ok _, rfl, trivial⟩, ⟨rfl, rfl, rfl, rfl, rfl, rfl, rfl, ⟨_, rfl, hru⟩, ⟨_, rfl, hsp⟩, ⟨_, rfl, b_Spare_waiting⟩, ⟨_, rfl, b_Spare_refused⟩, trivial⟩, ⟨rfl, rfl, of_rg rg_top⟩, ⟨rfl, rfl, of_rg rg_top⟩, ⟨rfl, rfl, of_rg rg_top⟩, ⟨rfl, rfl, of_rg rg_top⟩, ⟨rfl, rfl, of_rg rg_top⟩, ⟨rfl, rfl, b_Spare_stack⟩, trivial⟩⟩⟩
            · exact ⟨y, rfl, hy, Or.inr ⟨w, ⟨⟨rfl, rfl, rfl, rfl, rfl, rfl, rfl, rfl, rfl, rfl, rfl, rfl, rfl, rfl, rfl, gT_mk rfl e_HS_wasKept b_HS_wasKept, trivial⟩, ⟨rfl, rfl, ⟨0, rfl, by decide, by decide⟩, trivial⟩, ⟨rfl, rfl, b_Tape_bytes⟩, ⟨rfl, rfl, topA_ok _, topA_ok _, topA_ok _, topA_ok _, rfl, trivial⟩, ⟨rfl, rfl, rfl, rfl, rfl, rfl, rfl, ⟨_, rfl, hru⟩, ⟨_, rfl, hsp⟩, ⟨_, rfl, b_Spare_waiting⟩, ⟨_, rfl, b_Spare_refused⟩, trivial⟩, ⟨rfl, rfl, of_rg rg_top⟩, ⟨rfl, rfl, of_rg rg_top⟩, ⟨rfl, rfl, of_rg rg_top⟩, ⟨rfl, rfl, of_rg rg_top⟩, ⟨rfl, rfl, of_rg rg_top⟩, ⟨rfl, rfl, b_Spare_stack⟩, trivial⟩⟩⟩

def HX_law200C_R : List AC := hc_b483985024
def HY_law200C_R : List AC := hc_302ce35a21
def HZ_law200C_R : List AC := hc_deaa03670c
set_option maxRecDepth 100000 in
theorem x_law200C_R {l : Launch} {n : Nat} (h1 : 1 ≤ n ∧ n ≤ 200) : conOkY (MetP l 103 yX11_law cX11_law 4 (some .int) 0 0) [nI n] HX_law200C_R HY_law200C_R HZ_law200C_R (fun τ y => lwY (ob (decA (τ 250))) n y) := by
  intro τ hΦ h hh
  have z := all2_cons hh
  clear hh
  obtain ⟨e0, h, rfl, g0, hh⟩ := z
  rcases e0 with ⟨t0, n0, f0⟩ | ⟨ci, fs⟩
  · exact g0.elim
  obtain ⟨rfl, gf⟩ := g0
  have z := all2_cons gf
  clear gf
  obtain ⟨v0, fs, rfl, q0, gf⟩ := z
  cases (q0 : v0 = .inr (some (.inl 1)))
  have z := all2_cons gf
  clear gf
  obtain ⟨v0, fs, rfl, q0, gf⟩ := z
  cases gT_r (τ := τ) (t := 0) (v := v0) rfl q0
  have z := all2_cons gf
  clear gf
  obtain ⟨v0, fs, rfl, q0, gf⟩ := z
  cases gT_r (τ := τ) (t := 1) (v := v0) rfl q0
  have z := all2_cons gf
  clear gf
  obtain ⟨v0, fs, rfl, q0, gf⟩ := z
  cases gT_r (τ := τ) (t := 2) (v := v0) rfl q0
  have z := all2_cons gf
  clear gf
  obtain ⟨v0, fs, rfl, q0, gf⟩ := z
  cases gT_r (τ := τ) (t := 3) (v := v0) rfl q0
  have z := all2_cons gf
  clear gf
  obtain ⟨v0, fs, rfl, q0, gf⟩ := z
  cases gT_r (τ := τ) (t := 4) (v := v0) rfl q0
  have z := all2_cons gf
  clear gf
  obtain ⟨v0, fs, rfl, q0, gf⟩ := z
  cases gT_r (τ := τ) (t := 5) (v := v0) rfl q0
  have z := all2_cons gf
  clear gf
  obtain ⟨v0, fs, rfl, q0, gf⟩ := z
  cases gT_r (τ := τ) (t := 6) (v := v0) rfl q0
  have z := all2_cons gf
  clear gf
  obtain ⟨v0, fs, rfl, q0, gf⟩ := z
  cases gT_r (τ := τ) (t := 7) (v := v0) rfl q0
  have z := all2_cons gf
  clear gf
  obtain ⟨v0, fs, rfl, q0, gf⟩ := z
  cases gT_r (τ := τ) (t := 8) (v := v0) rfl q0
  have z := all2_cons gf
  clear gf
  obtain ⟨v0, fs, rfl, q0, gf⟩ := z
  cases (q0 : v0 = .inr (some (.inl 3)))
  have z := all2_cons gf
  clear gf
  obtain ⟨v0, fs, rfl, q0, gf⟩ := z
  cases gT_r (τ := τ) (t := 9) (v := v0) rfl q0
  have z := all2_cons gf
  clear gf
  obtain ⟨v0, fs, rfl, q0, gf⟩ := z
  cases gT_r (τ := τ) (t := 10) (v := v0) rfl q0
  have z := all2_cons gf
  clear gf
  obtain ⟨v0, fs, rfl, q0, gf⟩ := z
  cases (q0 : v0 = .inr (some (.inl 4)))
  have z := all2_cons gf
  clear gf
  obtain ⟨v0, fs, rfl, q0, gf⟩ := z
  obtain ⟨HS_wasKept, rfl, e_HS_wasKept, b_HS_wasKept⟩ := gT_x (τ := τ) (t := 201) (v := v0) rfl q0
  cases fs with
  | cons _ _ => exact gf.elim
  | nil =>
    have z := all2_cons hh
    clear hh
    obtain ⟨e0, h, rfl, g0, hh⟩ := z
    rcases e0 with ⟨t0, n0, f0⟩ | ⟨ci, fs⟩
    · exact g0.elim
    obtain ⟨rfl, gf⟩ := g0
    have z := all2_cons gf
    clear gf
    obtain ⟨v0, fs, rfl, q0, gf⟩ := z
    cases (q0 : v0 = .inr (some (.inl 2)))
    have z := all2_cons gf
    clear gf
    obtain ⟨v0, fs, rfl, q0, gf⟩ := z
    obtain ⟨Tape_size, rfl, b_Tape_size⟩ := q0
    cases fs with
    | cons _ _ => exact gf.elim
    | nil =>
      have z := all2_cons hh
      clear hh
      obtain ⟨e1, h, rfl, g1, hh⟩ := z
      rcases e1 with ⟨t1, n1, Tape_bytes⟩ | ⟨ci, fs⟩
      rotate_left
      · exact g1.elim
      obtain ⟨et, en, b_Tape_bytes⟩ := g1
      cases (et : t1 = 0)
      cases en
      have z := all2_cons hh
      clear hh
      obtain ⟨e0, h, rfl, g0, hh⟩ := z
      rcases e0 with ⟨t0, n0, f0⟩ | ⟨ci, fs⟩
      · exact g0.elim
      obtain ⟨rfl, gf⟩ := g0
      have z := all2_cons gf
      clear gf
      obtain ⟨v0, fs, rfl, q0, gf⟩ := z
      cases (q0 : v0 = .inr (some (.inl 2)))
      have z := all2_cons gf
      clear gf
      obtain ⟨v0, fs, rfl, q0, gf⟩ := z
      obtain ⟨LR_end, rfl, b_LR_end⟩ := q0
      have z := all2_cons gf
      clear gf
      obtain ⟨v0, fs, rfl, q0, gf⟩ := z
      obtain ⟨LR_at, rfl, b_LR_at⟩ := q0
      have z := all2_cons gf
      clear gf
      obtain ⟨v0, fs, rfl, q0, gf⟩ := z
      obtain ⟨LR_ahead, rfl, b_LR_ahead⟩ := q0
      have z := all2_cons gf
      clear gf
      obtain ⟨v0, fs, rfl, q0, gf⟩ := z
      obtain ⟨LR_fault, rfl, b_LR_fault⟩ := q0
      have z := all2_cons gf
      clear gf
      obtain ⟨v0, fs, rfl, q0, gf⟩ := z
      cases gT_r (τ := τ) (t := 10) (v := v0) rfl q0
      cases fs with
      | cons _ _ => exact gf.elim
      | nil =>
        have z := all2_cons hh
        clear hh
        obtain ⟨e0, h, rfl, g0, hh⟩ := z
        rcases e0 with ⟨t0, n0, f0⟩ | ⟨ci, fs⟩
        · exact g0.elim
        obtain ⟨rfl, gf⟩ := g0
        have z := all2_cons gf
        clear gf
        obtain ⟨v0, fs, rfl, q0, gf⟩ := z
        cases (q0 : v0 = .inr (some (.inl 5)))
        have z := all2_cons gf
        clear gf
        obtain ⟨v0, fs, rfl, q0, gf⟩ := z
        cases (q0 : v0 = .inr (some (.inl 6)))
        have z := all2_cons gf
        clear gf
        obtain ⟨v0, fs, rfl, q0, gf⟩ := z
        cases (q0 : v0 = .inr (some (.inl 7)))
        have z := all2_cons gf
        clear gf
        obtain ⟨v0, fs, rfl, q0, gf⟩ := z
        cases (q0 : v0 = .inr (some (.inl 8)))
        have z := all2_cons gf
        clear gf
        obtain ⟨v0, fs, rfl, q0, gf⟩ := z
        cases (q0 : v0 = .inr (some (.inl 9)))
        have z := all2_cons gf
        clear gf
        obtain ⟨v0, fs, rfl, q0, gf⟩ := z
        cases (q0 : v0 = .inr (some (.inl 10)))
        have z := all2_cons gf
        clear gf
        obtain ⟨v0, fs, rfl, q0, gf⟩ := z
        obtain ⟨Spare_rules, rfl, b_Spare_rules⟩ := q0
        have z := all2_cons gf
        clear gf
        obtain ⟨v0, fs, rfl, q0, gf⟩ := z
        obtain ⟨Spare_steps, rfl, b_Spare_steps⟩ := q0
        have z := all2_cons gf
        clear gf
        obtain ⟨v0, fs, rfl, q0, gf⟩ := z
        obtain ⟨Spare_waiting, rfl, b_Spare_waiting⟩ := q0
        have z := all2_cons gf
        clear gf
        obtain ⟨v0, fs, rfl, q0, gf⟩ := z
        obtain ⟨Spare_refused, rfl, b_Spare_refused⟩ := q0
        cases fs with
        | cons _ _ => exact gf.elim
        | nil =>
          have z := all2_cons hh
          clear hh
          obtain ⟨e1, h, rfl, g1, hh⟩ := z
          rcases e1 with ⟨t1, n1, Spare_kind⟩ | ⟨ci, fs⟩
          rotate_left
          · exact g1.elim
          obtain ⟨et, en, b_Spare_kind⟩ := g1
          cases (et : t1 = 0)
          cases en
          have z := all2_cons hh
          clear hh
          obtain ⟨e1, h, rfl, g1, hh⟩ := z
          rcases e1 with ⟨t1, n1, Spare_worthAt⟩ | ⟨ci, fs⟩
          rotate_left
          · exact g1.elim
          obtain ⟨et, en, b_Spare_worthAt⟩ := g1
          cases (et : t1 = 0)
          cases en
          have z := all2_cons hh
          clear hh
          obtain ⟨e1, h, rfl, g1, hh⟩ := z
          rcases e1 with ⟨t1, n1, Spare_testAt⟩ | ⟨ci, fs⟩
          rotate_left
          · exact g1.elim
          obtain ⟨et, en, b_Spare_testAt⟩ := g1
          cases (et : t1 = 0)
          cases en
          have z := all2_cons hh
          clear hh
          obtain ⟨e1, h, rfl, g1, hh⟩ := z
          rcases e1 with ⟨t1, n1, Spare_step⟩ | ⟨ci, fs⟩
          rotate_left
          · exact g1.elim
          obtain ⟨et, en, b_Spare_step⟩ := g1
          cases (et : t1 = 0)
          cases en
          have z := all2_cons hh
          clear hh
          obtain ⟨e1, h, rfl, g1, hh⟩ := z
          rcases e1 with ⟨t1, n1, Spare_beside⟩ | ⟨ci, fs⟩
          rotate_left
          · exact g1.elim
          obtain ⟨et, en, b_Spare_beside⟩ := g1
          cases (et : t1 = 0)
          cases en
          have z := all2_cons hh
          clear hh
          obtain ⟨e1, h, rfl, g1, hh⟩ := z
          rcases e1 with ⟨t1, n1, Spare_stack⟩ | ⟨ci, fs⟩
          rotate_left
          · exact g1.elim
          obtain ⟨et, en, b_Spare_stack⟩ := g1
          cases (et : t1 = 0)
          cases en
          cases h with
          | cons _ _ => exact hh.elim
          | nil =>
            obtain ⟨s, hs, rfl⟩ := rng_n (x := Tape_size) (k := 260) (by omega) b_Tape_size.2
            have es := sz_n (c := s) (by omega)
            obtain ⟨rF, eF⟩ := rg_x rfl b_Tape_bytes
            refine (c_X11_law_R (o := ob (decA (τ 250))) (n := n) (t := s) h1.1 (by omega) hs (by omega) (fun i hi => ob_ok (by omega) (eF i (by omega)) (rF i (by omega)))).mono (fun r h' hp => ?_)
            obtain ⟨y, K1, K2, K3, f1, f2, ru, at_, ah, fa, sp, hy, hru, hsp, rfl, (⟨w, rfl⟩ | ⟨w, rfl⟩)⟩ := hp
            · exact ⟨y, rfl, hy, Or.inl ⟨w, ⟨⟨rfl, rfl, rfl, rfl, rfl, rfl, rfl, rfl, rfl, rfl, rfl, rfl, rfl, rfl, rfl, gT_mk rfl e_HS_wasKept b_HS_wasKept, trivial⟩, ⟨rfl, rfl, ⟨0, rfl, by decide, by decide⟩, trivial⟩, ⟨rfl, rfl, b_Tape_bytes⟩, ⟨rfl, rfl, topA_ok _, topA_ok _, topA_ok _, topA_ok _, rfl, trivial⟩, ⟨rfl, rfl, rfl, rfl, rfl, rfl, rfl, ⟨_, rfl, hru⟩, ⟨_, rfl, hsp⟩, ⟨_, rfl, b_Spare_waiting⟩, ⟨_, rfl, b_Spare_refused⟩, trivial⟩, ⟨rfl, rfl, of_rg rg_top⟩, ⟨rfl, rfl, of_rg rg_top⟩, ⟨rfl, rfl, of_rg rg_top⟩, ⟨rfl, rfl, of_rg rg_top⟩, ⟨rfl, rfl, of_rg rg_top⟩, ⟨rfl, rfl, b_Spare_stack⟩, trivial⟩⟩⟩
            · exact ⟨y, rfl, hy, Or.inr ⟨w, ⟨⟨rfl, rfl, rfl, rfl, rfl, rfl, rfl, rfl, rfl, rfl, rfl, rfl, rfl, rfl, rfl, gT_mk rfl e_HS_wasKept b_HS_wasKept, trivial⟩, ⟨rfl, rfl, ⟨0, rfl, by decide, by decide⟩, trivial⟩, ⟨rfl, rfl, b_Tape_bytes⟩, ⟨rfl, rfl, topA_ok _, topA_ok _, topA_ok _, topA_ok _, rfl, trivial⟩, ⟨rfl, rfl, rfl, rfl, rfl, rfl, rfl, ⟨_, rfl, hru⟩, ⟨_, rfl, hsp⟩, ⟨_, rfl, b_Spare_waiting⟩, ⟨_, rfl, b_Spare_refused⟩, trivial⟩, ⟨rfl, rfl, of_rg rg_top⟩, ⟨rfl, rfl, of_rg rg_top⟩, ⟨rfl, rfl, of_rg rg_top⟩, ⟨rfl, rfl, of_rg rg_top⟩, ⟨rfl, rfl, of_rg rg_top⟩, ⟨rfl, rfl, b_Spare_stack⟩, trivial⟩⟩⟩

def HX_law220C_S : List AC := hc_3378ab3232
def HY_law220C_S : List AC := hc_302ce35a21
def HZ_law220C_S : List AC := hc_deaa03670c
set_option maxRecDepth 100000 in
theorem x_law220C_S {l : Launch} {n : Nat} (h1 : 1 ≤ n ∧ n ≤ 220) : conOkY (MetP l 103 yX11_law cX11_law 4 (some .int) 0 0) [nI n] HX_law220C_S HY_law220C_S HZ_law220C_S (fun τ y => lwY (ob (decA (τ 250))) n y) := by
  intro τ hΦ h hh
  have z := all2_cons hh
  clear hh
  obtain ⟨e0, h, rfl, g0, hh⟩ := z
  rcases e0 with ⟨t0, n0, f0⟩ | ⟨ci, fs⟩
  · exact g0.elim
  obtain ⟨rfl, gf⟩ := g0
  have z := all2_cons gf
  clear gf
  obtain ⟨v0, fs, rfl, q0, gf⟩ := z
  cases (q0 : v0 = .inr (some (.inl 1)))
  have z := all2_cons gf
  clear gf
  obtain ⟨v0, fs, rfl, q0, gf⟩ := z
  cases gT_r (τ := τ) (t := 0) (v := v0) rfl q0
  have z := all2_cons gf
  clear gf
  obtain ⟨v0, fs, rfl, q0, gf⟩ := z
  cases gT_r (τ := τ) (t := 1) (v := v0) rfl q0
  have z := all2_cons gf
  clear gf
  obtain ⟨v0, fs, rfl, q0, gf⟩ := z
  cases gT_r (τ := τ) (t := 2) (v := v0) rfl q0
  have z := all2_cons gf
  clear gf
  obtain ⟨v0, fs, rfl, q0, gf⟩ := z
  cases gT_r (τ := τ) (t := 3) (v := v0) rfl q0
  have z := all2_cons gf
  clear gf
  obtain ⟨v0, fs, rfl, q0, gf⟩ := z
  cases gT_r (τ := τ) (t := 4) (v := v0) rfl q0
  have z := all2_cons gf
  clear gf
  obtain ⟨v0, fs, rfl, q0, gf⟩ := z
  cases gT_r (τ := τ) (t := 5) (v := v0) rfl q0
  have z := all2_cons gf
  clear gf
  obtain ⟨v0, fs, rfl, q0, gf⟩ := z
  cases gT_r (τ := τ) (t := 6) (v := v0) rfl q0
  have z := all2_cons gf
  clear gf
  obtain ⟨v0, fs, rfl, q0, gf⟩ := z
  cases gT_r (τ := τ) (t := 7) (v := v0) rfl q0
  have z := all2_cons gf
  clear gf
  obtain ⟨v0, fs, rfl, q0, gf⟩ := z
  cases gT_r (τ := τ) (t := 8) (v := v0) rfl q0
  have z := all2_cons gf
  clear gf
  obtain ⟨v0, fs, rfl, q0, gf⟩ := z
  cases (q0 : v0 = .inr (some (.inl 3)))
  have z := all2_cons gf
  clear gf
  obtain ⟨v0, fs, rfl, q0, gf⟩ := z
  cases gT_r (τ := τ) (t := 9) (v := v0) rfl q0
  have z := all2_cons gf
  clear gf
  obtain ⟨v0, fs, rfl, q0, gf⟩ := z
  cases gT_r (τ := τ) (t := 10) (v := v0) rfl q0
  have z := all2_cons gf
  clear gf
  obtain ⟨v0, fs, rfl, q0, gf⟩ := z
  cases (q0 : v0 = .inr (some (.inl 4)))
  have z := all2_cons gf
  clear gf
  obtain ⟨v0, fs, rfl, q0, gf⟩ := z
  obtain ⟨HS_wasKept, rfl, e_HS_wasKept, b_HS_wasKept⟩ := gT_x (τ := τ) (t := 201) (v := v0) rfl q0
  cases fs with
  | cons _ _ => exact gf.elim
  | nil =>
    have z := all2_cons hh
    clear hh
    obtain ⟨e0, h, rfl, g0, hh⟩ := z
    rcases e0 with ⟨t0, n0, f0⟩ | ⟨ci, fs⟩
    · exact g0.elim
    obtain ⟨rfl, gf⟩ := g0
    have z := all2_cons gf
    clear gf
    obtain ⟨v0, fs, rfl, q0, gf⟩ := z
    cases (q0 : v0 = .inr (some (.inl 2)))
    have z := all2_cons gf
    clear gf
    obtain ⟨v0, fs, rfl, q0, gf⟩ := z
    obtain ⟨Tape_size, rfl, b_Tape_size⟩ := q0
    cases fs with
    | cons _ _ => exact gf.elim
    | nil =>
      have z := all2_cons hh
      clear hh
      obtain ⟨e1, h, rfl, g1, hh⟩ := z
      rcases e1 with ⟨t1, n1, Tape_bytes⟩ | ⟨ci, fs⟩
      rotate_left
      · exact g1.elim
      obtain ⟨et, en, b_Tape_bytes⟩ := g1
      cases (et : t1 = 0)
      cases en
      have z := all2_cons hh
      clear hh
      obtain ⟨e0, h, rfl, g0, hh⟩ := z
      rcases e0 with ⟨t0, n0, f0⟩ | ⟨ci, fs⟩
      · exact g0.elim
      obtain ⟨rfl, gf⟩ := g0
      have z := all2_cons gf
      clear gf
      obtain ⟨v0, fs, rfl, q0, gf⟩ := z
      cases (q0 : v0 = .inr (some (.inl 2)))
      have z := all2_cons gf
      clear gf
      obtain ⟨v0, fs, rfl, q0, gf⟩ := z
      obtain ⟨LR_end, rfl, b_LR_end⟩ := q0
      have z := all2_cons gf
      clear gf
      obtain ⟨v0, fs, rfl, q0, gf⟩ := z
      obtain ⟨LR_at, rfl, b_LR_at⟩ := q0
      have z := all2_cons gf
      clear gf
      obtain ⟨v0, fs, rfl, q0, gf⟩ := z
      obtain ⟨LR_ahead, rfl, b_LR_ahead⟩ := q0
      have z := all2_cons gf
      clear gf
      obtain ⟨v0, fs, rfl, q0, gf⟩ := z
      obtain ⟨LR_fault, rfl, b_LR_fault⟩ := q0
      have z := all2_cons gf
      clear gf
      obtain ⟨v0, fs, rfl, q0, gf⟩ := z
      cases (q0 : v0 = .inr (some (.inl 4)))
      cases fs with
      | cons _ _ => exact gf.elim
      | nil =>
        have z := all2_cons hh
        clear hh
        obtain ⟨e0, h, rfl, g0, hh⟩ := z
        rcases e0 with ⟨t0, n0, f0⟩ | ⟨ci, fs⟩
        · exact g0.elim
        obtain ⟨rfl, gf⟩ := g0
        have z := all2_cons gf
        clear gf
        obtain ⟨v0, fs, rfl, q0, gf⟩ := z
        cases (q0 : v0 = .inr (some (.inl 5)))
        have z := all2_cons gf
        clear gf
        obtain ⟨v0, fs, rfl, q0, gf⟩ := z
        cases (q0 : v0 = .inr (some (.inl 6)))
        have z := all2_cons gf
        clear gf
        obtain ⟨v0, fs, rfl, q0, gf⟩ := z
        cases (q0 : v0 = .inr (some (.inl 7)))
        have z := all2_cons gf
        clear gf
        obtain ⟨v0, fs, rfl, q0, gf⟩ := z
        cases (q0 : v0 = .inr (some (.inl 8)))
        have z := all2_cons gf
        clear gf
        obtain ⟨v0, fs, rfl, q0, gf⟩ := z
        cases (q0 : v0 = .inr (some (.inl 9)))
        have z := all2_cons gf
        clear gf
        obtain ⟨v0, fs, rfl, q0, gf⟩ := z
        cases (q0 : v0 = .inr (some (.inl 10)))
        have z := all2_cons gf
        clear gf
        obtain ⟨v0, fs, rfl, q0, gf⟩ := z
        obtain ⟨Spare_rules, rfl, b_Spare_rules⟩ := q0
        have z := all2_cons gf
        clear gf
        obtain ⟨v0, fs, rfl, q0, gf⟩ := z
        obtain ⟨Spare_steps, rfl, b_Spare_steps⟩ := q0
        have z := all2_cons gf
        clear gf
        obtain ⟨v0, fs, rfl, q0, gf⟩ := z
        obtain ⟨Spare_waiting, rfl, b_Spare_waiting⟩ := q0
        have z := all2_cons gf
        clear gf
        obtain ⟨v0, fs, rfl, q0, gf⟩ := z
        obtain ⟨Spare_refused, rfl, b_Spare_refused⟩ := q0
        cases fs with
        | cons _ _ => exact gf.elim
        | nil =>
          have z := all2_cons hh
          clear hh
          obtain ⟨e1, h, rfl, g1, hh⟩ := z
          rcases e1 with ⟨t1, n1, Spare_kind⟩ | ⟨ci, fs⟩
          rotate_left
          · exact g1.elim
          obtain ⟨et, en, b_Spare_kind⟩ := g1
          cases (et : t1 = 0)
          cases en
          have z := all2_cons hh
          clear hh
          obtain ⟨e1, h, rfl, g1, hh⟩ := z
          rcases e1 with ⟨t1, n1, Spare_worthAt⟩ | ⟨ci, fs⟩
          rotate_left
          · exact g1.elim
          obtain ⟨et, en, b_Spare_worthAt⟩ := g1
          cases (et : t1 = 0)
          cases en
          have z := all2_cons hh
          clear hh
          obtain ⟨e1, h, rfl, g1, hh⟩ := z
          rcases e1 with ⟨t1, n1, Spare_testAt⟩ | ⟨ci, fs⟩
          rotate_left
          · exact g1.elim
          obtain ⟨et, en, b_Spare_testAt⟩ := g1
          cases (et : t1 = 0)
          cases en
          have z := all2_cons hh
          clear hh
          obtain ⟨e1, h, rfl, g1, hh⟩ := z
          rcases e1 with ⟨t1, n1, Spare_step⟩ | ⟨ci, fs⟩
          rotate_left
          · exact g1.elim
          obtain ⟨et, en, b_Spare_step⟩ := g1
          cases (et : t1 = 0)
          cases en
          have z := all2_cons hh
          clear hh
          obtain ⟨e1, h, rfl, g1, hh⟩ := z
          rcases e1 with ⟨t1, n1, Spare_beside⟩ | ⟨ci, fs⟩
          rotate_left
          · exact g1.elim
          obtain ⟨et, en, b_Spare_beside⟩ := g1
          cases (et : t1 = 0)
          cases en
          have z := all2_cons hh
          clear hh
          obtain ⟨e1, h, rfl, g1, hh⟩ := z
          rcases e1 with ⟨t1, n1, Spare_stack⟩ | ⟨ci, fs⟩
          rotate_left
          · exact g1.elim
          obtain ⟨et, en, b_Spare_stack⟩ := g1
          cases (et : t1 = 0)
          cases en
          cases h with
          | cons _ _ => exact hh.elim
          | nil =>
            obtain ⟨s, hs, rfl⟩ := rng_n (x := Tape_size) (k := 260) (by omega) b_Tape_size.2
            have es := sz_n (c := s) (by omega)
            obtain ⟨rF, eF⟩ := rg_x rfl b_Tape_bytes
            refine (c_X11_law_S (o := ob (decA (τ 250))) (n := n) (t := s) h1.1 (by omega) hs (by omega) (fun i hi => ob_ok (by omega) (eF i (by omega)) (rF i (by omega)))).mono (fun r h' hp => ?_)
            obtain ⟨y, K1, K2, K3, f1, f2, ru, at_, ah, fa, sp, hy, hru, hsp, rfl, (⟨w, rfl⟩ | ⟨w, rfl⟩)⟩ := hp
            · exact ⟨y, rfl, hy, Or.inl ⟨w, ⟨⟨rfl, rfl, rfl, rfl, rfl, rfl, rfl, rfl, rfl, rfl, rfl, rfl, rfl, rfl, rfl, gT_mk rfl e_HS_wasKept b_HS_wasKept, trivial⟩, ⟨rfl, rfl, ⟨0, rfl, by decide, by decide⟩, trivial⟩, ⟨rfl, rfl, b_Tape_bytes⟩, ⟨rfl, rfl, topA_ok _, topA_ok _, topA_ok _, topA_ok _, rfl, trivial⟩, ⟨rfl, rfl, rfl, rfl, rfl, rfl, rfl, ⟨_, rfl, hru⟩, ⟨_, rfl, hsp⟩, ⟨_, rfl, b_Spare_waiting⟩, ⟨_, rfl, b_Spare_refused⟩, trivial⟩, ⟨rfl, rfl, of_rg rg_top⟩, ⟨rfl, rfl, of_rg rg_top⟩, ⟨rfl, rfl, of_rg rg_top⟩, ⟨rfl, rfl, of_rg rg_top⟩, ⟨rfl, rfl, of_rg rg_top⟩, ⟨rfl, rfl, b_Spare_stack⟩, trivial⟩⟩⟩
            · exact ⟨y, rfl, hy, Or.inr ⟨w, ⟨⟨rfl, rfl, rfl, rfl, rfl, rfl, rfl, rfl, rfl, rfl, rfl, rfl, rfl, rfl, rfl, gT_mk rfl e_HS_wasKept b_HS_wasKept, trivial⟩, ⟨rfl, rfl, ⟨0, rfl, by decide, by decide⟩, trivial⟩, ⟨rfl, rfl, b_Tape_bytes⟩, ⟨rfl, rfl, topA_ok _, topA_ok _, topA_ok _, topA_ok _, rfl, trivial⟩, ⟨rfl, rfl, rfl, rfl, rfl, rfl, rfl, ⟨_, rfl, hru⟩, ⟨_, rfl, hsp⟩, ⟨_, rfl, b_Spare_waiting⟩, ⟨_, rfl, b_Spare_refused⟩, trivial⟩, ⟨rfl, rfl, of_rg rg_top⟩, ⟨rfl, rfl, of_rg rg_top⟩, ⟨rfl, rfl, of_rg rg_top⟩, ⟨rfl, rfl, of_rg rg_top⟩, ⟨rfl, rfl, of_rg rg_top⟩, ⟨rfl, rfl, b_Spare_stack⟩, trivial⟩⟩⟩

def HX_law220C_R : List AC := hc_14dfb73474
def HY_law220C_R : List AC := hc_302ce35a21
def HZ_law220C_R : List AC := hc_deaa03670c
set_option maxRecDepth 100000 in
theorem x_law220C_R {l : Launch} {n : Nat} (h1 : 1 ≤ n ∧ n ≤ 220) : conOkY (MetP l 103 yX11_law cX11_law 4 (some .int) 0 0) [nI n] HX_law220C_R HY_law220C_R HZ_law220C_R (fun τ y => lwY (ob (decA (τ 250))) n y) := by
  intro τ hΦ h hh
  have z := all2_cons hh
  clear hh
  obtain ⟨e0, h, rfl, g0, hh⟩ := z
  rcases e0 with ⟨t0, n0, f0⟩ | ⟨ci, fs⟩
  · exact g0.elim
  obtain ⟨rfl, gf⟩ := g0
  have z := all2_cons gf
  clear gf
  obtain ⟨v0, fs, rfl, q0, gf⟩ := z
  cases (q0 : v0 = .inr (some (.inl 1)))
  have z := all2_cons gf
  clear gf
  obtain ⟨v0, fs, rfl, q0, gf⟩ := z
  cases gT_r (τ := τ) (t := 0) (v := v0) rfl q0
  have z := all2_cons gf
  clear gf
  obtain ⟨v0, fs, rfl, q0, gf⟩ := z
  cases gT_r (τ := τ) (t := 1) (v := v0) rfl q0
  have z := all2_cons gf
  clear gf
  obtain ⟨v0, fs, rfl, q0, gf⟩ := z
  cases gT_r (τ := τ) (t := 2) (v := v0) rfl q0
  have z := all2_cons gf
  clear gf
  obtain ⟨v0, fs, rfl, q0, gf⟩ := z
  cases gT_r (τ := τ) (t := 3) (v := v0) rfl q0
  have z := all2_cons gf
  clear gf
  obtain ⟨v0, fs, rfl, q0, gf⟩ := z
  cases gT_r (τ := τ) (t := 4) (v := v0) rfl q0
  have z := all2_cons gf
  clear gf
  obtain ⟨v0, fs, rfl, q0, gf⟩ := z
  cases gT_r (τ := τ) (t := 5) (v := v0) rfl q0
  have z := all2_cons gf
  clear gf
  obtain ⟨v0, fs, rfl, q0, gf⟩ := z
  cases gT_r (τ := τ) (t := 6) (v := v0) rfl q0
  have z := all2_cons gf
  clear gf
  obtain ⟨v0, fs, rfl, q0, gf⟩ := z
  cases gT_r (τ := τ) (t := 7) (v := v0) rfl q0
  have z := all2_cons gf
  clear gf
  obtain ⟨v0, fs, rfl, q0, gf⟩ := z
  cases gT_r (τ := τ) (t := 8) (v := v0) rfl q0
  have z := all2_cons gf
  clear gf
  obtain ⟨v0, fs, rfl, q0, gf⟩ := z
  cases (q0 : v0 = .inr (some (.inl 3)))
  have z := all2_cons gf
  clear gf
  obtain ⟨v0, fs, rfl, q0, gf⟩ := z
  cases gT_r (τ := τ) (t := 9) (v := v0) rfl q0
  have z := all2_cons gf
  clear gf
  obtain ⟨v0, fs, rfl, q0, gf⟩ := z
  cases gT_r (τ := τ) (t := 10) (v := v0) rfl q0
  have z := all2_cons gf
  clear gf
  obtain ⟨v0, fs, rfl, q0, gf⟩ := z
  cases (q0 : v0 = .inr (some (.inl 4)))
  have z := all2_cons gf
  clear gf
  obtain ⟨v0, fs, rfl, q0, gf⟩ := z
  obtain ⟨HS_wasKept, rfl, e_HS_wasKept, b_HS_wasKept⟩ := gT_x (τ := τ) (t := 201) (v := v0) rfl q0
  cases fs with
  | cons _ _ => exact gf.elim
  | nil =>
    have z := all2_cons hh
    clear hh
    obtain ⟨e0, h, rfl, g0, hh⟩ := z
    rcases e0 with ⟨t0, n0, f0⟩ | ⟨ci, fs⟩
    · exact g0.elim
    obtain ⟨rfl, gf⟩ := g0
    have z := all2_cons gf
    clear gf
    obtain ⟨v0, fs, rfl, q0, gf⟩ := z
    cases (q0 : v0 = .inr (some (.inl 2)))
    have z := all2_cons gf
    clear gf
    obtain ⟨v0, fs, rfl, q0, gf⟩ := z
    obtain ⟨Tape_size, rfl, b_Tape_size⟩ := q0
    cases fs with
    | cons _ _ => exact gf.elim
    | nil =>
      have z := all2_cons hh
      clear hh
      obtain ⟨e1, h, rfl, g1, hh⟩ := z
      rcases e1 with ⟨t1, n1, Tape_bytes⟩ | ⟨ci, fs⟩
      rotate_left
      · exact g1.elim
      obtain ⟨et, en, b_Tape_bytes⟩ := g1
      cases (et : t1 = 0)
      cases en
      have z := all2_cons hh
      clear hh
      obtain ⟨e0, h, rfl, g0, hh⟩ := z
      rcases e0 with ⟨t0, n0, f0⟩ | ⟨ci, fs⟩
      · exact g0.elim
      obtain ⟨rfl, gf⟩ := g0
      have z := all2_cons gf
      clear gf
      obtain ⟨v0, fs, rfl, q0, gf⟩ := z
      cases (q0 : v0 = .inr (some (.inl 2)))
      have z := all2_cons gf
      clear gf
      obtain ⟨v0, fs, rfl, q0, gf⟩ := z
      obtain ⟨LR_end, rfl, b_LR_end⟩ := q0
      have z := all2_cons gf
      clear gf
      obtain ⟨v0, fs, rfl, q0, gf⟩ := z
      obtain ⟨LR_at, rfl, b_LR_at⟩ := q0
      have z := all2_cons gf
      clear gf
      obtain ⟨v0, fs, rfl, q0, gf⟩ := z
      obtain ⟨LR_ahead, rfl, b_LR_ahead⟩ := q0
      have z := all2_cons gf
      clear gf
      obtain ⟨v0, fs, rfl, q0, gf⟩ := z
      obtain ⟨LR_fault, rfl, b_LR_fault⟩ := q0
      have z := all2_cons gf
      clear gf
      obtain ⟨v0, fs, rfl, q0, gf⟩ := z
      cases gT_r (τ := τ) (t := 10) (v := v0) rfl q0
      cases fs with
      | cons _ _ => exact gf.elim
      | nil =>
        have z := all2_cons hh
        clear hh
        obtain ⟨e0, h, rfl, g0, hh⟩ := z
        rcases e0 with ⟨t0, n0, f0⟩ | ⟨ci, fs⟩
        · exact g0.elim
        obtain ⟨rfl, gf⟩ := g0
        have z := all2_cons gf
        clear gf
        obtain ⟨v0, fs, rfl, q0, gf⟩ := z
        cases (q0 : v0 = .inr (some (.inl 5)))
        have z := all2_cons gf
        clear gf
        obtain ⟨v0, fs, rfl, q0, gf⟩ := z
        cases (q0 : v0 = .inr (some (.inl 6)))
        have z := all2_cons gf
        clear gf
        obtain ⟨v0, fs, rfl, q0, gf⟩ := z
        cases (q0 : v0 = .inr (some (.inl 7)))
        have z := all2_cons gf
        clear gf
        obtain ⟨v0, fs, rfl, q0, gf⟩ := z
        cases (q0 : v0 = .inr (some (.inl 8)))
        have z := all2_cons gf
        clear gf
        obtain ⟨v0, fs, rfl, q0, gf⟩ := z
        cases (q0 : v0 = .inr (some (.inl 9)))
        have z := all2_cons gf
        clear gf
        obtain ⟨v0, fs, rfl, q0, gf⟩ := z
        cases (q0 : v0 = .inr (some (.inl 10)))
        have z := all2_cons gf
        clear gf
        obtain ⟨v0, fs, rfl, q0, gf⟩ := z
        obtain ⟨Spare_rules, rfl, b_Spare_rules⟩ := q0
        have z := all2_cons gf
        clear gf
        obtain ⟨v0, fs, rfl, q0, gf⟩ := z
        obtain ⟨Spare_steps, rfl, b_Spare_steps⟩ := q0
        have z := all2_cons gf
        clear gf
        obtain ⟨v0, fs, rfl, q0, gf⟩ := z
        obtain ⟨Spare_waiting, rfl, b_Spare_waiting⟩ := q0
        have z := all2_cons gf
        clear gf
        obtain ⟨v0, fs, rfl, q0, gf⟩ := z
        obtain ⟨Spare_refused, rfl, b_Spare_refused⟩ := q0
        cases fs with
        | cons _ _ => exact gf.elim
        | nil =>
          have z := all2_cons hh
          clear hh
          obtain ⟨e1, h, rfl, g1, hh⟩ := z
          rcases e1 with ⟨t1, n1, Spare_kind⟩ | ⟨ci, fs⟩
          rotate_left
          · exact g1.elim
          obtain ⟨et, en, b_Spare_kind⟩ := g1
          cases (et : t1 = 0)
          cases en
          have z := all2_cons hh
          clear hh
          obtain ⟨e1, h, rfl, g1, hh⟩ := z
          rcases e1 with ⟨t1, n1, Spare_worthAt⟩ | ⟨ci, fs⟩
          rotate_left
          · exact g1.elim
          obtain ⟨et, en, b_Spare_worthAt⟩ := g1
          cases (et : t1 = 0)
          cases en
          have z := all2_cons hh
          clear hh
          obtain ⟨e1, h, rfl, g1, hh⟩ := z
          rcases e1 with ⟨t1, n1, Spare_testAt⟩ | ⟨ci, fs⟩
          rotate_left
          · exact g1.elim
          obtain ⟨et, en, b_Spare_testAt⟩ := g1
          cases (et : t1 = 0)
          cases en
          have z := all2_cons hh
          clear hh
          obtain ⟨e1, h, rfl, g1, hh⟩ := z
          rcases e1 with ⟨t1, n1, Spare_step⟩ | ⟨ci, fs⟩
          rotate_left
          · exact g1.elim
          obtain ⟨et, en, b_Spare_step⟩ := g1
          cases (et : t1 = 0)
          cases en
          have z := all2_cons hh
          clear hh
          obtain ⟨e1, h, rfl, g1, hh⟩ := z
          rcases e1 with ⟨t1, n1, Spare_beside⟩ | ⟨ci, fs⟩
          rotate_left
          · exact g1.elim
          obtain ⟨et, en, b_Spare_beside⟩ := g1
          cases (et : t1 = 0)
          cases en
          have z := all2_cons hh
          clear hh
          obtain ⟨e1, h, rfl, g1, hh⟩ := z
          rcases e1 with ⟨t1, n1, Spare_stack⟩ | ⟨ci, fs⟩
          rotate_left
          · exact g1.elim
          obtain ⟨et, en, b_Spare_stack⟩ := g1
          cases (et : t1 = 0)
          cases en
          cases h with
          | cons _ _ => exact hh.elim
          | nil =>
            obtain ⟨s, hs, rfl⟩ := rng_n (x := Tape_size) (k := 260) (by omega) b_Tape_size.2
            have es := sz_n (c := s) (by omega)
            obtain ⟨rF, eF⟩ := rg_x rfl b_Tape_bytes
            refine (c_X11_law_R (o := ob (decA (τ 250))) (n := n) (t := s) h1.1 (by omega) hs (by omega) (fun i hi => ob_ok (by omega) (eF i (by omega)) (rF i (by omega)))).mono (fun r h' hp => ?_)
            obtain ⟨y, K1, K2, K3, f1, f2, ru, at_, ah, fa, sp, hy, hru, hsp, rfl, (⟨w, rfl⟩ | ⟨w, rfl⟩)⟩ := hp
            · exact ⟨y, rfl, hy, Or.inl ⟨w, ⟨⟨rfl, rfl, rfl, rfl, rfl, rfl, rfl, rfl, rfl, rfl, rfl, rfl, rfl, rfl, rfl, gT_mk rfl e_HS_wasKept b_HS_wasKept, trivial⟩, ⟨rfl, rfl, ⟨0, rfl, by decide, by decide⟩, trivial⟩, ⟨rfl, rfl, b_Tape_bytes⟩, ⟨rfl, rfl, topA_ok _, topA_ok _, topA_ok _, topA_ok _, rfl, trivial⟩, ⟨rfl, rfl, rfl, rfl, rfl, rfl, rfl, ⟨_, rfl, hru⟩, ⟨_, rfl, hsp⟩, ⟨_, rfl, b_Spare_waiting⟩, ⟨_, rfl, b_Spare_refused⟩, trivial⟩, ⟨rfl, rfl, of_rg rg_top⟩, ⟨rfl, rfl, of_rg rg_top⟩, ⟨rfl, rfl, of_rg rg_top⟩, ⟨rfl, rfl, of_rg rg_top⟩, ⟨rfl, rfl, of_rg rg_top⟩, ⟨rfl, rfl, b_Spare_stack⟩, trivial⟩⟩⟩
            · exact ⟨y, rfl, hy, Or.inr ⟨w, ⟨⟨rfl, rfl, rfl, rfl, rfl, rfl, rfl, rfl, rfl, rfl, rfl, rfl, rfl, rfl, rfl, gT_mk rfl e_HS_wasKept b_HS_wasKept, trivial⟩, ⟨rfl, rfl, ⟨0, rfl, by decide, by decide⟩, trivial⟩, ⟨rfl, rfl, b_Tape_bytes⟩, ⟨rfl, rfl, topA_ok _, topA_ok _, topA_ok _, topA_ok _, rfl, trivial⟩, ⟨rfl, rfl, rfl, rfl, rfl, rfl, rfl, ⟨_, rfl, hru⟩, ⟨_, rfl, hsp⟩, ⟨_, rfl, b_Spare_waiting⟩, ⟨_, rfl, b_Spare_refused⟩, trivial⟩, ⟨rfl, rfl, of_rg rg_top⟩, ⟨rfl, rfl, of_rg rg_top⟩, ⟨rfl, rfl, of_rg rg_top⟩, ⟨rfl, rfl, of_rg rg_top⟩, ⟨rfl, rfl, of_rg rg_top⟩, ⟨rfl, rfl, b_Spare_stack⟩, trivial⟩⟩⟩

def HX_law240C_S : List AC := hc_1ad5fca206
def HY_law240C_S : List AC := hc_302ce35a21
def HZ_law240C_S : List AC := hc_deaa03670c
set_option maxRecDepth 100000 in
theorem x_law240C_S {l : Launch} {n : Nat} (h1 : 1 ≤ n ∧ n ≤ 240) : conOkY (MetP l 103 yX11_law cX11_law 4 (some .int) 0 0) [nI n] HX_law240C_S HY_law240C_S HZ_law240C_S (fun τ y => lwY (ob (decA (τ 250))) n y) := by
  intro τ hΦ h hh
  have z := all2_cons hh
  clear hh
  obtain ⟨e0, h, rfl, g0, hh⟩ := z
  rcases e0 with ⟨t0, n0, f0⟩ | ⟨ci, fs⟩
  · exact g0.elim
  obtain ⟨rfl, gf⟩ := g0
  have z := all2_cons gf
  clear gf
  obtain ⟨v0, fs, rfl, q0, gf⟩ := z
  cases (q0 : v0 = .inr (some (.inl 1)))
  have z := all2_cons gf
  clear gf
  obtain ⟨v0, fs, rfl, q0, gf⟩ := z
  cases gT_r (τ := τ) (t := 0) (v := v0) rfl q0
  have z := all2_cons gf
  clear gf
  obtain ⟨v0, fs, rfl, q0, gf⟩ := z
  cases gT_r (τ := τ) (t := 1) (v := v0) rfl q0
  have z := all2_cons gf
  clear gf
  obtain ⟨v0, fs, rfl, q0, gf⟩ := z
  cases gT_r (τ := τ) (t := 2) (v := v0) rfl q0
  have z := all2_cons gf
  clear gf
  obtain ⟨v0, fs, rfl, q0, gf⟩ := z
  cases gT_r (τ := τ) (t := 3) (v := v0) rfl q0
  have z := all2_cons gf
  clear gf
  obtain ⟨v0, fs, rfl, q0, gf⟩ := z
  cases gT_r (τ := τ) (t := 4) (v := v0) rfl q0
  have z := all2_cons gf
  clear gf
  obtain ⟨v0, fs, rfl, q0, gf⟩ := z
  cases gT_r (τ := τ) (t := 5) (v := v0) rfl q0
  have z := all2_cons gf
  clear gf
  obtain ⟨v0, fs, rfl, q0, gf⟩ := z
  cases gT_r (τ := τ) (t := 6) (v := v0) rfl q0
  have z := all2_cons gf
  clear gf
  obtain ⟨v0, fs, rfl, q0, gf⟩ := z
  cases gT_r (τ := τ) (t := 7) (v := v0) rfl q0
  have z := all2_cons gf
  clear gf
  obtain ⟨v0, fs, rfl, q0, gf⟩ := z
  cases gT_r (τ := τ) (t := 8) (v := v0) rfl q0
  have z := all2_cons gf
  clear gf
  obtain ⟨v0, fs, rfl, q0, gf⟩ := z
  cases (q0 : v0 = .inr (some (.inl 3)))
  have z := all2_cons gf
  clear gf
  obtain ⟨v0, fs, rfl, q0, gf⟩ := z
  cases gT_r (τ := τ) (t := 9) (v := v0) rfl q0
  have z := all2_cons gf
  clear gf
  obtain ⟨v0, fs, rfl, q0, gf⟩ := z
  cases gT_r (τ := τ) (t := 10) (v := v0) rfl q0
  have z := all2_cons gf
  clear gf
  obtain ⟨v0, fs, rfl, q0, gf⟩ := z
  cases (q0 : v0 = .inr (some (.inl 4)))
  have z := all2_cons gf
  clear gf
  obtain ⟨v0, fs, rfl, q0, gf⟩ := z
  obtain ⟨HS_wasKept, rfl, e_HS_wasKept, b_HS_wasKept⟩ := gT_x (τ := τ) (t := 201) (v := v0) rfl q0
  cases fs with
  | cons _ _ => exact gf.elim
  | nil =>
    have z := all2_cons hh
    clear hh
    obtain ⟨e0, h, rfl, g0, hh⟩ := z
    rcases e0 with ⟨t0, n0, f0⟩ | ⟨ci, fs⟩
    · exact g0.elim
    obtain ⟨rfl, gf⟩ := g0
    have z := all2_cons gf
    clear gf
    obtain ⟨v0, fs, rfl, q0, gf⟩ := z
    cases (q0 : v0 = .inr (some (.inl 2)))
    have z := all2_cons gf
    clear gf
    obtain ⟨v0, fs, rfl, q0, gf⟩ := z
    obtain ⟨Tape_size, rfl, b_Tape_size⟩ := q0
    cases fs with
    | cons _ _ => exact gf.elim
    | nil =>
      have z := all2_cons hh
      clear hh
      obtain ⟨e1, h, rfl, g1, hh⟩ := z
      rcases e1 with ⟨t1, n1, Tape_bytes⟩ | ⟨ci, fs⟩
      rotate_left
      · exact g1.elim
      obtain ⟨et, en, b_Tape_bytes⟩ := g1
      cases (et : t1 = 0)
      cases en
      have z := all2_cons hh
      clear hh
      obtain ⟨e0, h, rfl, g0, hh⟩ := z
      rcases e0 with ⟨t0, n0, f0⟩ | ⟨ci, fs⟩
      · exact g0.elim
      obtain ⟨rfl, gf⟩ := g0
      have z := all2_cons gf
      clear gf
      obtain ⟨v0, fs, rfl, q0, gf⟩ := z
      cases (q0 : v0 = .inr (some (.inl 2)))
      have z := all2_cons gf
      clear gf
      obtain ⟨v0, fs, rfl, q0, gf⟩ := z
      obtain ⟨LR_end, rfl, b_LR_end⟩ := q0
      have z := all2_cons gf
      clear gf
      obtain ⟨v0, fs, rfl, q0, gf⟩ := z
      obtain ⟨LR_at, rfl, b_LR_at⟩ := q0
      have z := all2_cons gf
      clear gf
      obtain ⟨v0, fs, rfl, q0, gf⟩ := z
      obtain ⟨LR_ahead, rfl, b_LR_ahead⟩ := q0
      have z := all2_cons gf
      clear gf
      obtain ⟨v0, fs, rfl, q0, gf⟩ := z
      obtain ⟨LR_fault, rfl, b_LR_fault⟩ := q0
      have z := all2_cons gf
      clear gf
      obtain ⟨v0, fs, rfl, q0, gf⟩ := z
      cases (q0 : v0 = .inr (some (.inl 4)))
      cases fs with
      | cons _ _ => exact gf.elim
      | nil =>
        have z := all2_cons hh
        clear hh
        obtain ⟨e0, h, rfl, g0, hh⟩ := z
        rcases e0 with ⟨t0, n0, f0⟩ | ⟨ci, fs⟩
        · exact g0.elim
        obtain ⟨rfl, gf⟩ := g0
        have z := all2_cons gf
        clear gf
        obtain ⟨v0, fs, rfl, q0, gf⟩ := z
        cases (q0 : v0 = .inr (some (.inl 5)))
        have z := all2_cons gf
        clear gf
        obtain ⟨v0, fs, rfl, q0, gf⟩ := z
        cases (q0 : v0 = .inr (some (.inl 6)))
        have z := all2_cons gf
        clear gf
        obtain ⟨v0, fs, rfl, q0, gf⟩ := z
        cases (q0 : v0 = .inr (some (.inl 7)))
        have z := all2_cons gf
        clear gf
        obtain ⟨v0, fs, rfl, q0, gf⟩ := z
        cases (q0 : v0 = .inr (some (.inl 8)))
        have z := all2_cons gf
        clear gf
        obtain ⟨v0, fs, rfl, q0, gf⟩ := z
        cases (q0 : v0 = .inr (some (.inl 9)))
        have z := all2_cons gf
        clear gf
        obtain ⟨v0, fs, rfl, q0, gf⟩ := z
        cases (q0 : v0 = .inr (some (.inl 10)))
        have z := all2_cons gf
        clear gf
        obtain ⟨v0, fs, rfl, q0, gf⟩ := z
        obtain ⟨Spare_rules, rfl, b_Spare_rules⟩ := q0
        have z := all2_cons gf
        clear gf
        obtain ⟨v0, fs, rfl, q0, gf⟩ := z
        obtain ⟨Spare_steps, rfl, b_Spare_steps⟩ := q0
        have z := all2_cons gf
        clear gf
        obtain ⟨v0, fs, rfl, q0, gf⟩ := z
        obtain ⟨Spare_waiting, rfl, b_Spare_waiting⟩ := q0
        have z := all2_cons gf
        clear gf
        obtain ⟨v0, fs, rfl, q0, gf⟩ := z
        obtain ⟨Spare_refused, rfl, b_Spare_refused⟩ := q0
        cases fs with
        | cons _ _ => exact gf.elim
        | nil =>
          have z := all2_cons hh
          clear hh
          obtain ⟨e1, h, rfl, g1, hh⟩ := z
          rcases e1 with ⟨t1, n1, Spare_kind⟩ | ⟨ci, fs⟩
          rotate_left
          · exact g1.elim
          obtain ⟨et, en, b_Spare_kind⟩ := g1
          cases (et : t1 = 0)
          cases en
          have z := all2_cons hh
          clear hh
          obtain ⟨e1, h, rfl, g1, hh⟩ := z
          rcases e1 with ⟨t1, n1, Spare_worthAt⟩ | ⟨ci, fs⟩
          rotate_left
          · exact g1.elim
          obtain ⟨et, en, b_Spare_worthAt⟩ := g1
          cases (et : t1 = 0)
          cases en
          have z := all2_cons hh
          clear hh
          obtain ⟨e1, h, rfl, g1, hh⟩ := z
          rcases e1 with ⟨t1, n1, Spare_testAt⟩ | ⟨ci, fs⟩
          rotate_left
          · exact g1.elim
          obtain ⟨et, en, b_Spare_testAt⟩ := g1
          cases (et : t1 = 0)
          cases en
          have z := all2_cons hh
          clear hh
          obtain ⟨e1, h, rfl, g1, hh⟩ := z
          rcases e1 with ⟨t1, n1, Spare_step⟩ | ⟨ci, fs⟩
          rotate_left
          · exact g1.elim
          obtain ⟨et, en, b_Spare_step⟩ := g1
          cases (et : t1 = 0)
          cases en
          have z := all2_cons hh
          clear hh
          obtain ⟨e1, h, rfl, g1, hh⟩ := z
          rcases e1 with ⟨t1, n1, Spare_beside⟩ | ⟨ci, fs⟩
          rotate_left
          · exact g1.elim
          obtain ⟨et, en, b_Spare_beside⟩ := g1
          cases (et : t1 = 0)
          cases en
          have z := all2_cons hh
          clear hh
          obtain ⟨e1, h, rfl, g1, hh⟩ := z
          rcases e1 with ⟨t1, n1, Spare_stack⟩ | ⟨ci, fs⟩
          rotate_left
          · exact g1.elim
          obtain ⟨et, en, b_Spare_stack⟩ := g1
          cases (et : t1 = 0)
          cases en
          cases h with
          | cons _ _ => exact hh.elim
          | nil =>
            obtain ⟨s, hs, rfl⟩ := rng_n (x := Tape_size) (k := 260) (by omega) b_Tape_size.2
            have es := sz_n (c := s) (by omega)
            obtain ⟨rF, eF⟩ := rg_x rfl b_Tape_bytes
            refine (c_X11_law_S (o := ob (decA (τ 250))) (n := n) (t := s) h1.1 (by omega) hs (by omega) (fun i hi => ob_ok (by omega) (eF i (by omega)) (rF i (by omega)))).mono (fun r h' hp => ?_)
            obtain ⟨y, K1, K2, K3, f1, f2, ru, at_, ah, fa, sp, hy, hru, hsp, rfl, (⟨w, rfl⟩ | ⟨w, rfl⟩)⟩ := hp
            · exact ⟨y, rfl, hy, Or.inl ⟨w, ⟨⟨rfl, rfl, rfl, rfl, rfl, rfl, rfl, rfl, rfl, rfl, rfl, rfl, rfl, rfl, rfl, gT_mk rfl e_HS_wasKept b_HS_wasKept, trivial⟩, ⟨rfl, rfl, ⟨0, rfl, by decide, by decide⟩, trivial⟩, ⟨rfl, rfl, b_Tape_bytes⟩, ⟨rfl, rfl, topA_ok _, topA_ok _, topA_ok _, topA_ok _, rfl, trivial⟩, ⟨rfl, rfl, rfl, rfl, rfl, rfl, rfl, ⟨_, rfl, hru⟩, ⟨_, rfl, hsp⟩, ⟨_, rfl, b_Spare_waiting⟩, ⟨_, rfl, b_Spare_refused⟩, trivial⟩, ⟨rfl, rfl, of_rg rg_top⟩, ⟨rfl, rfl, of_rg rg_top⟩, ⟨rfl, rfl, of_rg rg_top⟩, ⟨rfl, rfl, of_rg rg_top⟩, ⟨rfl, rfl, of_rg rg_top⟩, ⟨rfl, rfl, b_Spare_stack⟩, trivial⟩⟩⟩
            · exact ⟨y, rfl, hy, Or.inr ⟨w, ⟨⟨rfl, rfl, rfl, rfl, rfl, rfl, rfl, rfl, rfl, rfl, rfl, rfl, rfl, rfl, rfl, gT_mk rfl e_HS_wasKept b_HS_wasKept, trivial⟩, ⟨rfl, rfl, ⟨0, rfl, by decide, by decide⟩, trivial⟩, ⟨rfl, rfl, b_Tape_bytes⟩, ⟨rfl, rfl, topA_ok _, topA_ok _, topA_ok _, topA_ok _, rfl, trivial⟩, ⟨rfl, rfl, rfl, rfl, rfl, rfl, rfl, ⟨_, rfl, hru⟩, ⟨_, rfl, hsp⟩, ⟨_, rfl, b_Spare_waiting⟩, ⟨_, rfl, b_Spare_refused⟩, trivial⟩, ⟨rfl, rfl, of_rg rg_top⟩, ⟨rfl, rfl, of_rg rg_top⟩, ⟨rfl, rfl, of_rg rg_top⟩, ⟨rfl, rfl, of_rg rg_top⟩, ⟨rfl, rfl, of_rg rg_top⟩, ⟨rfl, rfl, b_Spare_stack⟩, trivial⟩⟩⟩

def HX_law240C_R : List AC := hc_f21e1d3000
def HY_law240C_R : List AC := hc_302ce35a21
def HZ_law240C_R : List AC := hc_deaa03670c
set_option maxRecDepth 100000 in
theorem x_law240C_R {l : Launch} {n : Nat} (h1 : 1 ≤ n ∧ n ≤ 240) : conOkY (MetP l 103 yX11_law cX11_law 4 (some .int) 0 0) [nI n] HX_law240C_R HY_law240C_R HZ_law240C_R (fun τ y => lwY (ob (decA (τ 250))) n y) := by
  intro τ hΦ h hh
  have z := all2_cons hh
  clear hh
  obtain ⟨e0, h, rfl, g0, hh⟩ := z
  rcases e0 with ⟨t0, n0, f0⟩ | ⟨ci, fs⟩
  · exact g0.elim
  obtain ⟨rfl, gf⟩ := g0
  have z := all2_cons gf
  clear gf
  obtain ⟨v0, fs, rfl, q0, gf⟩ := z
  cases (q0 : v0 = .inr (some (.inl 1)))
  have z := all2_cons gf
  clear gf
  obtain ⟨v0, fs, rfl, q0, gf⟩ := z
  cases gT_r (τ := τ) (t := 0) (v := v0) rfl q0
  have z := all2_cons gf
  clear gf
  obtain ⟨v0, fs, rfl, q0, gf⟩ := z
  cases gT_r (τ := τ) (t := 1) (v := v0) rfl q0
  have z := all2_cons gf
  clear gf
  obtain ⟨v0, fs, rfl, q0, gf⟩ := z
  cases gT_r (τ := τ) (t := 2) (v := v0) rfl q0
  have z := all2_cons gf
  clear gf
  obtain ⟨v0, fs, rfl, q0, gf⟩ := z
  cases gT_r (τ := τ) (t := 3) (v := v0) rfl q0
  have z := all2_cons gf
  clear gf
  obtain ⟨v0, fs, rfl, q0, gf⟩ := z
  cases gT_r (τ := τ) (t := 4) (v := v0) rfl q0
  have z := all2_cons gf
  clear gf
  obtain ⟨v0, fs, rfl, q0, gf⟩ := z
  cases gT_r (τ := τ) (t := 5) (v := v0) rfl q0
  have z := all2_cons gf
  clear gf
  obtain ⟨v0, fs, rfl, q0, gf⟩ := z
  cases gT_r (τ := τ) (t := 6) (v := v0) rfl q0
  have z := all2_cons gf
  clear gf
  obtain ⟨v0, fs, rfl, q0, gf⟩ := z
  cases gT_r (τ := τ) (t := 7) (v := v0) rfl q0
  have z := all2_cons gf
  clear gf
  obtain ⟨v0, fs, rfl, q0, gf⟩ := z
  cases gT_r (τ := τ) (t := 8) (v := v0) rfl q0
  have z := all2_cons gf
  clear gf
  obtain ⟨v0, fs, rfl, q0, gf⟩ := z
  cases (q0 : v0 = .inr (some (.inl 3)))
  have z := all2_cons gf
  clear gf
  obtain ⟨v0, fs, rfl, q0, gf⟩ := z
  cases gT_r (τ := τ) (t := 9) (v := v0) rfl q0
  have z := all2_cons gf
  clear gf
  obtain ⟨v0, fs, rfl, q0, gf⟩ := z
  cases gT_r (τ := τ) (t := 10) (v := v0) rfl q0
  have z := all2_cons gf
  clear gf
  obtain ⟨v0, fs, rfl, q0, gf⟩ := z
  cases (q0 : v0 = .inr (some (.inl 4)))
  have z := all2_cons gf
  clear gf
  obtain ⟨v0, fs, rfl, q0, gf⟩ := z
  obtain ⟨HS_wasKept, rfl, e_HS_wasKept, b_HS_wasKept⟩ := gT_x (τ := τ) (t := 201) (v := v0) rfl q0
  cases fs with
  | cons _ _ => exact gf.elim
  | nil =>
    have z := all2_cons hh
    clear hh
    obtain ⟨e0, h, rfl, g0, hh⟩ := z
    rcases e0 with ⟨t0, n0, f0⟩ | ⟨ci, fs⟩
    · exact g0.elim
    obtain ⟨rfl, gf⟩ := g0
    have z := all2_cons gf
    clear gf
    obtain ⟨v0, fs, rfl, q0, gf⟩ := z
    cases (q0 : v0 = .inr (some (.inl 2)))
    have z := all2_cons gf
    clear gf
    obtain ⟨v0, fs, rfl, q0, gf⟩ := z
    obtain ⟨Tape_size, rfl, b_Tape_size⟩ := q0
    cases fs with
    | cons _ _ => exact gf.elim
    | nil =>
      have z := all2_cons hh
      clear hh
      obtain ⟨e1, h, rfl, g1, hh⟩ := z
      rcases e1 with ⟨t1, n1, Tape_bytes⟩ | ⟨ci, fs⟩
      rotate_left
      · exact g1.elim
      obtain ⟨et, en, b_Tape_bytes⟩ := g1
      cases (et : t1 = 0)
      cases en
      have z := all2_cons hh
      clear hh
      obtain ⟨e0, h, rfl, g0, hh⟩ := z
      rcases e0 with ⟨t0, n0, f0⟩ | ⟨ci, fs⟩
      · exact g0.elim
      obtain ⟨rfl, gf⟩ := g0
      have z := all2_cons gf
      clear gf
      obtain ⟨v0, fs, rfl, q0, gf⟩ := z
      cases (q0 : v0 = .inr (some (.inl 2)))
      have z := all2_cons gf
      clear gf
      obtain ⟨v0, fs, rfl, q0, gf⟩ := z
      obtain ⟨LR_end, rfl, b_LR_end⟩ := q0
      have z := all2_cons gf
      clear gf
      obtain ⟨v0, fs, rfl, q0, gf⟩ := z
      obtain ⟨LR_at, rfl, b_LR_at⟩ := q0
      have z := all2_cons gf
      clear gf
      obtain ⟨v0, fs, rfl, q0, gf⟩ := z
      obtain ⟨LR_ahead, rfl, b_LR_ahead⟩ := q0
      have z := all2_cons gf
      clear gf
      obtain ⟨v0, fs, rfl, q0, gf⟩ := z
      obtain ⟨LR_fault, rfl, b_LR_fault⟩ := q0
      have z := all2_cons gf
      clear gf
      obtain ⟨v0, fs, rfl, q0, gf⟩ := z
      cases gT_r (τ := τ) (t := 10) (v := v0) rfl q0
      cases fs with
      | cons _ _ => exact gf.elim
      | nil =>
        have z := all2_cons hh
        clear hh
        obtain ⟨e0, h, rfl, g0, hh⟩ := z
        rcases e0 with ⟨t0, n0, f0⟩ | ⟨ci, fs⟩
        · exact g0.elim
        obtain ⟨rfl, gf⟩ := g0
        have z := all2_cons gf
        clear gf
        obtain ⟨v0, fs, rfl, q0, gf⟩ := z
        cases (q0 : v0 = .inr (some (.inl 5)))
        have z := all2_cons gf
        clear gf
        obtain ⟨v0, fs, rfl, q0, gf⟩ := z
        cases (q0 : v0 = .inr (some (.inl 6)))
        have z := all2_cons gf
        clear gf
        obtain ⟨v0, fs, rfl, q0, gf⟩ := z
        cases (q0 : v0 = .inr (some (.inl 7)))
        have z := all2_cons gf
        clear gf
        obtain ⟨v0, fs, rfl, q0, gf⟩ := z
        cases (q0 : v0 = .inr (some (.inl 8)))
        have z := all2_cons gf
        clear gf
        obtain ⟨v0, fs, rfl, q0, gf⟩ := z
        cases (q0 : v0 = .inr (some (.inl 9)))
        have z := all2_cons gf
        clear gf
        obtain ⟨v0, fs, rfl, q0, gf⟩ := z
        cases (q0 : v0 = .inr (some (.inl 10)))
        have z := all2_cons gf
        clear gf
        obtain ⟨v0, fs, rfl, q0, gf⟩ := z
        obtain ⟨Spare_rules, rfl, b_Spare_rules⟩ := q0
        have z := all2_cons gf
        clear gf
        obtain ⟨v0, fs, rfl, q0, gf⟩ := z
        obtain ⟨Spare_steps, rfl, b_Spare_steps⟩ := q0
        have z := all2_cons gf
        clear gf
        obtain ⟨v0, fs, rfl, q0, gf⟩ := z
        obtain ⟨Spare_waiting, rfl, b_Spare_waiting⟩ := q0
        have z := all2_cons gf
        clear gf
        obtain ⟨v0, fs, rfl, q0, gf⟩ := z
        obtain ⟨Spare_refused, rfl, b_Spare_refused⟩ := q0
        cases fs with
        | cons _ _ => exact gf.elim
        | nil =>
          have z := all2_cons hh
          clear hh
          obtain ⟨e1, h, rfl, g1, hh⟩ := z
          rcases e1 with ⟨t1, n1, Spare_kind⟩ | ⟨ci, fs⟩
          rotate_left
          · exact g1.elim
          obtain ⟨et, en, b_Spare_kind⟩ := g1
          cases (et : t1 = 0)
          cases en
          have z := all2_cons hh
          clear hh
          obtain ⟨e1, h, rfl, g1, hh⟩ := z
          rcases e1 with ⟨t1, n1, Spare_worthAt⟩ | ⟨ci, fs⟩
          rotate_left
          · exact g1.elim
          obtain ⟨et, en, b_Spare_worthAt⟩ := g1
          cases (et : t1 = 0)
          cases en
          have z := all2_cons hh
          clear hh
          obtain ⟨e1, h, rfl, g1, hh⟩ := z
          rcases e1 with ⟨t1, n1, Spare_testAt⟩ | ⟨ci, fs⟩
          rotate_left
          · exact g1.elim
          obtain ⟨et, en, b_Spare_testAt⟩ := g1
          cases (et : t1 = 0)
          cases en
          have z := all2_cons hh
          clear hh
          obtain ⟨e1, h, rfl, g1, hh⟩ := z
          rcases e1 with ⟨t1, n1, Spare_step⟩ | ⟨ci, fs⟩
          rotate_left
          · exact g1.elim
          obtain ⟨et, en, b_Spare_step⟩ := g1
          cases (et : t1 = 0)
          cases en
          have z := all2_cons hh
          clear hh
          obtain ⟨e1, h, rfl, g1, hh⟩ := z
          rcases e1 with ⟨t1, n1, Spare_beside⟩ | ⟨ci, fs⟩
          rotate_left
          · exact g1.elim
          obtain ⟨et, en, b_Spare_beside⟩ := g1
          cases (et : t1 = 0)
          cases en
          have z := all2_cons hh
          clear hh
          obtain ⟨e1, h, rfl, g1, hh⟩ := z
          rcases e1 with ⟨t1, n1, Spare_stack⟩ | ⟨ci, fs⟩
          rotate_left
          · exact g1.elim
          obtain ⟨et, en, b_Spare_stack⟩ := g1
          cases (et : t1 = 0)
          cases en
          cases h with
          | cons _ _ => exact hh.elim
          | nil =>
            obtain ⟨s, hs, rfl⟩ := rng_n (x := Tape_size) (k := 260) (by omega) b_Tape_size.2
            have es := sz_n (c := s) (by omega)
            obtain ⟨rF, eF⟩ := rg_x rfl b_Tape_bytes
            refine (c_X11_law_R (o := ob (decA (τ 250))) (n := n) (t := s) h1.1 (by omega) hs (by omega) (fun i hi => ob_ok (by omega) (eF i (by omega)) (rF i (by omega)))).mono (fun r h' hp => ?_)
            obtain ⟨y, K1, K2, K3, f1, f2, ru, at_, ah, fa, sp, hy, hru, hsp, rfl, (⟨w, rfl⟩ | ⟨w, rfl⟩)⟩ := hp
            · exact ⟨y, rfl, hy, Or.inl ⟨w, ⟨⟨rfl, rfl, rfl, rfl, rfl, rfl, rfl, rfl, rfl, rfl, rfl, rfl, rfl, rfl, rfl, gT_mk rfl e_HS_wasKept b_HS_wasKept, trivial⟩, ⟨rfl, rfl, ⟨0, rfl, by decide, by decide⟩, trivial⟩, ⟨rfl, rfl, b_Tape_bytes⟩, ⟨rfl, rfl, topA_ok _, topA_ok _, topA_ok _, topA_ok _, rfl, trivial⟩, ⟨rfl, rfl, rfl, rfl, rfl, rfl, rfl, ⟨_, rfl, hru⟩, ⟨_, rfl, hsp⟩, ⟨_, rfl, b_Spare_waiting⟩, ⟨_, rfl, b_Spare_refused⟩, trivial⟩, ⟨rfl, rfl, of_rg rg_top⟩, ⟨rfl, rfl, of_rg rg_top⟩, ⟨rfl, rfl, of_rg rg_top⟩, ⟨rfl, rfl, of_rg rg_top⟩, ⟨rfl, rfl, of_rg rg_top⟩, ⟨rfl, rfl, b_Spare_stack⟩, trivial⟩⟩⟩
            · exact ⟨y, rfl, hy, Or.inr ⟨w, ⟨⟨rfl, rfl, rfl, rfl, rfl, rfl, rfl, rfl, rfl, rfl, rfl, rfl, rfl, rfl, rfl, gT_mk rfl e_HS_wasKept b_HS_wasKept, trivial⟩, ⟨rfl, rfl, ⟨0, rfl, by decide, by decide⟩, trivial⟩, ⟨rfl, rfl, b_Tape_bytes⟩, ⟨rfl, rfl, topA_ok _, topA_ok _, topA_ok _, topA_ok _, rfl, trivial⟩, ⟨rfl, rfl, rfl, rfl, rfl, rfl, rfl, ⟨_, rfl, hru⟩, ⟨_, rfl, hsp⟩, ⟨_, rfl, b_Spare_waiting⟩, ⟨_, rfl, b_Spare_refused⟩, trivial⟩, ⟨rfl, rfl, of_rg rg_top⟩, ⟨rfl, rfl, of_rg rg_top⟩, ⟨rfl, rfl, of_rg rg_top⟩, ⟨rfl, rfl, of_rg rg_top⟩, ⟨rfl, rfl, of_rg rg_top⟩, ⟨rfl, rfl, b_Spare_stack⟩, trivial⟩⟩⟩

def HX_law20R : List AC := hc_4ebef1a536
def HY_law20R : List AC := hc_a074f70448
set_option maxRecDepth 100000 in
theorem x_law20R {l : Launch} {n : Nat} (h1 : 1 ≤ n ∧ n ≤ 20) : conOkX (MetP l 8 yX12_law cX12_law 4 (some .int) 0 0) [nI n] HX_law20R HY_law20R (fun t => Nat.ble t 200) (fun _ => True) (fun τ τ' y => lwY (ob (fun i => f_and (decA (τ 251) i) 255)) n y) := by
  intro τ hΦ hP h hh
  have z := all2_cons hh
  clear hh
  obtain ⟨e0, h, rfl, g0, hh⟩ := z
  rcases e0 with ⟨t0, n0, f0⟩ | ⟨ci, fs⟩
  · exact g0.elim
  obtain ⟨rfl, gf⟩ := g0
  have z := all2_cons gf
  clear gf
  obtain ⟨v0, fs, rfl, q0, gf⟩ := z
  cases gT_r (τ := τ) (t := 0) (v := v0) rfl q0
  have z := all2_cons gf
  clear gf
  obtain ⟨v0, fs, rfl, q0, gf⟩ := z
  cases gT_r (τ := τ) (t := 1) (v := v0) rfl q0
  have z := all2_cons gf
  clear gf
  obtain ⟨v0, fs, rfl, q0, gf⟩ := z
  cases gT_r (τ := τ) (t := 2) (v := v0) rfl q0
  have z := all2_cons gf
  clear gf
  obtain ⟨v0, fs, rfl, q0, gf⟩ := z
  cases gT_r (τ := τ) (t := 3) (v := v0) rfl q0
  have z := all2_cons gf
  clear gf
  obtain ⟨v0, fs, rfl, q0, gf⟩ := z
  cases gT_r (τ := τ) (t := 4) (v := v0) rfl q0
  have z := all2_cons gf
  clear gf
  obtain ⟨v0, fs, rfl, q0, gf⟩ := z
  cases gT_r (τ := τ) (t := 5) (v := v0) rfl q0
  have z := all2_cons gf
  clear gf
  obtain ⟨v0, fs, rfl, q0, gf⟩ := z
  cases gT_r (τ := τ) (t := 6) (v := v0) rfl q0
  have z := all2_cons gf
  clear gf
  obtain ⟨v0, fs, rfl, q0, gf⟩ := z
  cases gT_r (τ := τ) (t := 7) (v := v0) rfl q0
  have z := all2_cons gf
  clear gf
  obtain ⟨v0, fs, rfl, q0, gf⟩ := z
  obtain ⟨M_stampMany, rfl, b_stampMany⟩ := q0
  have z := all2_cons gf
  clear gf
  obtain ⟨v0, fs, rfl, q0, gf⟩ := z
  cases (q0 : v0 = .inr (some (.inl 1)))
  have z := all2_cons gf
  clear gf
  obtain ⟨v0, fs, rfl, q0, gf⟩ := z
  obtain ⟨M_taped, rfl, b_taped⟩ := q0
  have z := all2_cons gf
  clear gf
  obtain ⟨v0, fs, rfl, q0, gf⟩ := z
  obtain ⟨M_place0, rfl, b_place0⟩ := q0
  have z := all2_cons gf
  clear gf
  obtain ⟨v0, fs, rfl, q0, gf⟩ := z
  obtain ⟨M_length0, rfl, b_length0⟩ := q0
  have z := all2_cons gf
  clear gf
  obtain ⟨v0, fs, rfl, q0, gf⟩ := z
  obtain ⟨M_fault, rfl, b_fault⟩ := q0
  have z := all2_cons gf
  clear gf
  obtain ⟨v0, fs, rfl, q0, gf⟩ := z
  obtain ⟨M_number0, rfl, b_number0⟩ := q0
  have z := all2_cons gf
  clear gf
  obtain ⟨v0, fs, rfl, q0, gf⟩ := z
  obtain ⟨M_open, rfl, b_open⟩ := q0
  have z := all2_cons gf
  clear gf
  obtain ⟨v0, fs, rfl, q0, gf⟩ := z
  obtain ⟨M_codeMany, rfl, b_codeMany⟩ := q0
  have z := all2_cons gf
  clear gf
  obtain ⟨v0, fs, rfl, q0, gf⟩ := z
  obtain ⟨M_waiting, rfl, b_waiting⟩ := q0
  have z := all2_cons gf
  clear gf
  obtain ⟨v0, fs, rfl, q0, gf⟩ := z
  obtain ⟨M_saidMany, rfl, b_saidMany⟩ := q0
  have z := all2_cons gf
  clear gf
  obtain ⟨v0, fs, rfl, q0, gf⟩ := z
  cases gT_i (τ := τ) (t := 200) (v := v0) rfl q0
  have z := all2_cons gf
  clear gf
  obtain ⟨v0, fs, rfl, q0, gf⟩ := z
  cases (q0 : v0 = .inr (some (.inl 2)))
  have z := all2_cons gf
  clear gf
  obtain ⟨v0, fs, rfl, q0, gf⟩ := z
  cases (q0 : v0 = .inr (some (.inl 3)))
  have z := all2_cons gf
  clear gf
  obtain ⟨v0, fs, rfl, q0, gf⟩ := z
  cases (q0 : v0 = .inr (some (.inl 4)))
  have z := all2_cons gf
  clear gf
  obtain ⟨v0, fs, rfl, q0, gf⟩ := z
  cases (q0 : v0 = .inr (some (.inl 5)))
  have z := all2_cons gf
  clear gf
  obtain ⟨v0, fs, rfl, q0, gf⟩ := z
  cases (q0 : v0 = .inr (some (.inl 6)))
  have z := all2_cons gf
  clear gf
  obtain ⟨v0, fs, rfl, q0, gf⟩ := z
  cases (q0 : v0 = .inr (some (.inl 7)))
  have z := all2_cons gf
  clear gf
  obtain ⟨v0, fs, rfl, q0, gf⟩ := z
  cases (q0 : v0 = .inr (some (.inl 8)))
  have z := all2_cons gf
  clear gf
  obtain ⟨v0, fs, rfl, q0, gf⟩ := z
  cases (q0 : v0 = .inr (some (.inl 9)))
  have z := all2_cons gf
  clear gf
  obtain ⟨v0, fs, rfl, q0, gf⟩ := z
  cases (q0 : v0 = .inr (some (.inl 10)))
  have z := all2_cons gf
  clear gf
  obtain ⟨v0, fs, rfl, q0, gf⟩ := z
  cases (q0 : v0 = .inr (some (.inl 11)))
  have z := all2_cons gf
  clear gf
  obtain ⟨v0, fs, rfl, q0, gf⟩ := z
  cases (q0 : v0 = .inr (some (.inl 12)))
  have z := all2_cons gf
  clear gf
  obtain ⟨v0, fs, rfl, q0, gf⟩ := z
  cases gT_r (τ := τ) (t := 8) (v := v0) rfl q0
  have z := all2_cons gf
  clear gf
  obtain ⟨v0, fs, rfl, q0, gf⟩ := z
  cases gT_r (τ := τ) (t := 9) (v := v0) rfl q0
  have z := all2_cons gf
  clear gf
  obtain ⟨v0, fs, rfl, q0, gf⟩ := z
  cases gT_r (τ := τ) (t := 10) (v := v0) rfl q0
  have z := all2_cons gf
  clear gf
  obtain ⟨v0, fs, rfl, q0, gf⟩ := z
  cases gT_r (τ := τ) (t := 11) (v := v0) rfl q0
  have z := all2_cons gf
  clear gf
  obtain ⟨v0, fs, rfl, q0, gf⟩ := z
  cases gT_r (τ := τ) (t := 12) (v := v0) rfl q0
  have z := all2_cons gf
  clear gf
  obtain ⟨v0, fs, rfl, q0, gf⟩ := z
  cases gT_r (τ := τ) (t := 13) (v := v0) rfl q0
  have z := all2_cons gf
  clear gf
  obtain ⟨v0, fs, rfl, q0, gf⟩ := z
  obtain ⟨M_newMany, rfl, b_newMany⟩ := q0
  have z := all2_cons gf
  clear gf
  obtain ⟨v0, fs, rfl, q0, gf⟩ := z
  obtain ⟨M_rounds, rfl, b_rounds⟩ := q0
  have z := all2_cons gf
  clear gf
  obtain ⟨v0, fs, rfl, q0, gf⟩ := z
  obtain ⟨M_stampFrom, rfl, b_stampFrom⟩ := q0
  have z := all2_cons gf
  clear gf
  obtain ⟨v0, fs, rfl, q0, gf⟩ := z
  obtain ⟨M_stampTimes, rfl, b_stampTimes⟩ := q0
  have z := all2_cons gf
  clear gf
  obtain ⟨v0, fs, rfl, q0, gf⟩ := z
  obtain ⟨M_lines, rfl, b_lines⟩ := q0
  have z := all2_cons gf
  clear gf
  obtain ⟨v0, fs, rfl, q0, gf⟩ := z
  obtain ⟨M_spot0, rfl, b_spot0⟩ := q0
  have z := all2_cons gf
  clear gf
  obtain ⟨v0, fs, rfl, q0, gf⟩ := z
  obtain ⟨M_pullAcross, rfl, b_pullAcross⟩ := q0
  have z := all2_cons gf
  clear gf
  obtain ⟨v0, fs, rfl, q0, gf⟩ := z
  obtain ⟨M_pullAlong, rfl, b_pullAlong⟩ := q0
  have z := all2_cons gf
  clear gf
  obtain ⟨v0, fs, rfl, q0, gf⟩ := z
  obtain ⟨M_stepsNow, rfl, b_stepsNow⟩ := q0
  have z := all2_cons gf
  clear gf
  obtain ⟨v0, fs, rfl, q0, gf⟩ := z
  obtain ⟨M_fallenNow, rfl, b_fallenNow⟩ := q0
  have z := all2_cons gf
  clear gf
  obtain ⟨v0, fs, rfl, q0, gf⟩ := z
  cases gT_r (τ := τ) (t := 14) (v := v0) rfl q0
  have z := all2_cons gf
  clear gf
  obtain ⟨v0, fs, rfl, q0, gf⟩ := z
  cases gT_r (τ := τ) (t := 15) (v := v0) rfl q0
  have z := all2_cons gf
  clear gf
  obtain ⟨v0, fs, rfl, q0, gf⟩ := z
  cases gT_r (τ := τ) (t := 16) (v := v0) rfl q0
  have z := all2_cons gf
  clear gf
  obtain ⟨v0, fs, rfl, q0, gf⟩ := z
  cases gT_r (τ := τ) (t := 17) (v := v0) rfl q0
  have z := all2_cons gf
  clear gf
  obtain ⟨v0, fs, rfl, q0, gf⟩ := z
  cases gT_r (τ := τ) (t := 18) (v := v0) rfl q0
  have z := all2_cons gf
  clear gf
  obtain ⟨v0, fs, rfl, q0, gf⟩ := z
  obtain ⟨M_isKept, rfl, e_isKept, b_isKept⟩ := gT_x (τ := τ) (t := 201) (v := v0) rfl q0
  cases fs with
  | cons _ _ => exact gf.elim
  | nil =>
    have z := all2_cons hh
    clear hh
    obtain ⟨e1, h, rfl, g1, hh⟩ := z
    rcases e1 with ⟨t1, n1, M_tape⟩ | ⟨ci, fs⟩
    rotate_left
    · exact g1.elim
    obtain ⟨et, en, b_tape⟩ := g1
    cases (et : t1 = 1)
    cases en
    have z := all2_cons hh
    clear hh
    obtain ⟨e1, h, rfl, g1, hh⟩ := z
    rcases e1 with ⟨t1, n1, M_said⟩ | ⟨ci, fs⟩
    rotate_left
    · exact g1.elim
    obtain ⟨et, en, b_said⟩ := g1
    cases (et : t1 = 0)
    cases en
    have z := all2_cons hh
    clear hh
    obtain ⟨e1, h, rfl, g1, hh⟩ := z
    rcases e1 with ⟨t1, n1, M_waitsAt⟩ | ⟨ci, fs⟩
    rotate_left
    · exact g1.elim
    obtain ⟨et, en, b_waitsAt⟩ := g1
    cases (et : t1 = 0)
    cases en
    have z := all2_cons hh
    clear hh
    obtain ⟨e1, h, rfl, g1, hh⟩ := z
    rcases e1 with ⟨t1, n1, M_saidLetter⟩ | ⟨ci, fs⟩
    rotate_left
    · exact g1.elim
    obtain ⟨et, en, b_saidLetter⟩ := g1
    cases (et : t1 = 0)
    cases en
    have z := all2_cons hh
    clear hh
    obtain ⟨e1, h, rfl, g1, hh⟩ := z
    rcases e1 with ⟨t1, n1, M_saidFrom⟩ | ⟨ci, fs⟩
    rotate_left
    · exact g1.elim
    obtain ⟨et, en, b_saidFrom⟩ := g1
    cases (et : t1 = 0)
    cases en
    have z := all2_cons hh
    clear hh
    obtain ⟨e1, h, rfl, g1, hh⟩ := z
    rcases e1 with ⟨t1, n1, M_saidHalf⟩ | ⟨ci, fs⟩
    rotate_left
    · exact g1.elim
    obtain ⟨et, en, b_saidHalf⟩ := g1
    cases (et : t1 = 0)
    cases en
    have z := all2_cons hh
    clear hh
    obtain ⟨e1, h, rfl, g1, hh⟩ := z
    rcases e1 with ⟨t1, n1, M_saidTo⟩ | ⟨ci, fs⟩
    rotate_left
    · exact g1.elim
    obtain ⟨et, en, b_saidTo⟩ := g1
    cases (et : t1 = 0)
    cases en
    have z := all2_cons hh
    clear hh
    obtain ⟨e1, h, rfl, g1, hh⟩ := z
    rcases e1 with ⟨t1, n1, M_codes⟩ | ⟨ci, fs⟩
    rotate_left
    · exact g1.elim
    obtain ⟨et, en, b_codes⟩ := g1
    cases (et : t1 = 0)
    cases en
    have z := all2_cons hh
    clear hh
    obtain ⟨e1, h, rfl, g1, hh⟩ := z
    rcases e1 with ⟨t1, n1, M_clauseOf⟩ | ⟨ci, fs⟩
    rotate_left
    · exact g1.elim
    obtain ⟨et, en, b_clauseOf⟩ := g1
    cases (et : t1 = 0)
    cases en
    have z := all2_cons hh
    clear hh
    obtain ⟨e1, h, rfl, g1, hh⟩ := z
    rcases e1 with ⟨t1, n1, M_codeFrom⟩ | ⟨ci, fs⟩
    rotate_left
    · exact g1.elim
    obtain ⟨et, en, b_codeFrom⟩ := g1
    cases (et : t1 = 0)
    cases en
    have z := all2_cons hh
    clear hh
    obtain ⟨e1, h, rfl, g1, hh⟩ := z
    rcases e1 with ⟨t1, n1, M_codeHalf⟩ | ⟨ci, fs⟩
    rotate_left
    · exact g1.elim
    obtain ⟨et, en, b_codeHalf⟩ := g1
    cases (et : t1 = 0)
    cases en
    have z := all2_cons hh
    clear hh
    obtain ⟨e1, h, rfl, g1, hh⟩ := z
    rcases e1 with ⟨t1, n1, M_codeTo⟩ | ⟨ci, fs⟩
    rotate_left
    · exact g1.elim
    obtain ⟨et, en, b_codeTo⟩ := g1
    cases (et : t1 = 0)
    cases en
    cases h with
    | cons _ _ => exact hh.elim
    | nil =>
    obtain ⟨t0, ht0, rfl⟩ := rng_n (x := M_waiting) (k := 260) b_waiting.1 b_waiting.2
    obtain ⟨s, hs, rfl⟩ := rng_n (x := M_taped) (k := 260) (by omega) b_taped.2
    have es := sz_n (c := s) (by omega)
    obtain ⟨rF, eF⟩ := rg_x rfl b_tape
    have k5 : n ≤ 240 := by omega
    refine (z_X12_law (b := ob (fun i => f_and (decA (τ 251) i) 255)) (n := n) (t0 := t0) (tn := s) h1.1 k5 (by omega) ht0 hs (fun i hi => ob_ok (f := fun i => f_and (decA (τ 251) i) 255) (F := fun i => f_and (M_tape i) 255) (by omega) (by show f_and (M_tape i) 255 = f_and (decA (τ 251) i) 255; rw [eF i (by omega)]) oct_rng)).mono (fun r h' hp => ?_)
    rcases hp with ⟨y, sd, wt, sl, sf, sh, st, c', t', p', m, v, o, f, rfl, kQ, k1, k2, k3, k4, rfl⟩ | ⟨y, sd, wt, sl, sf, sh, st, cd, co, cf, ch, ct, c', t', p', m, v, o, f, rfl, kQ, k1, k2, k3, k4, k6, rfl⟩
    · exact ⟨τ, y, hΦ, fun _ _ => rfl, rfl, kQ, ⟨⟨rfl, rfl, rfl, rfl, rfl, rfl, rfl, rfl, rfl, ⟨_, rfl, b_stampMany⟩, rfl, ⟨_, rfl, nr (m := 0) (k := 0) (by omega) (by omega)⟩, ⟨_, rfl, nr (m := 240) k3 (by omega)⟩, ⟨_, rfl, nr (m := 240) k5 (by omega)⟩, topA_ok _, topA_ok _, topA_ok _, ⟨_, rfl, nr (m := 260) k1 (by omega)⟩, ⟨_, rfl, nr (m := 260) k2 (by omega)⟩, ⟨_, rfl, nr (m := 16) k4 (by omega)⟩, gT_mk (t := 200) rfl rfl ⟨i32lo _, i32hi _⟩, rfl, rfl, rfl, rfl, rfl, rfl, rfl, rfl, rfl, rfl, rfl, rfl, rfl, rfl, rfl, rfl, rfl, ⟨_, rfl, b_newMany⟩, ⟨_, rfl, b_rounds⟩, ⟨_, rfl, b_stampFrom⟩, ⟨_, rfl, b_stampTimes⟩, ⟨_, rfl, b_lines⟩, ⟨_, rfl, b_spot0⟩, ⟨_, rfl, b_pullAcross⟩, ⟨_, rfl, b_pullAlong⟩, ⟨_, rfl, b_stepsNow⟩, ⟨_, rfl, b_fallenNow⟩, rfl, rfl, rfl, rfl, rfl, gT_mk rfl e_isKept b_isKept, trivial⟩, ⟨rfl, rfl, b_tape⟩, ⟨rfl, rfl, of_rg rg_top⟩, ⟨rfl, rfl, of_rg rg_top⟩, ⟨rfl, rfl, of_rg rg_top⟩, ⟨rfl, rfl, of_rg rg_top⟩, ⟨rfl, rfl, of_rg rg_top⟩, ⟨rfl, rfl, of_rg rg_top⟩, ⟨rfl, rfl, b_codes⟩, ⟨rfl, rfl, b_clauseOf⟩, ⟨rfl, rfl, b_codeFrom⟩, ⟨rfl, rfl, b_codeHalf⟩, ⟨rfl, rfl, b_codeTo⟩, trivial⟩⟩
    · refine ⟨tauL τ cd cf ch ct (nI m), y, tauL_Φ k6, fun t ht => tauL_lo (kT200 ht), rfl, kQ, ?_⟩
      have em : (nI m : Int32) = decA (tauL τ cd cf ch ct (nI m) 200) 0 := tauL_m.symm
      exact ⟨⟨rfl, rfl, rfl, rfl, rfl, rfl, rfl, rfl, rfl, ⟨_, rfl, b_stampMany⟩, rfl, ⟨_, rfl, nr (m := 0) (k := 0) (by omega) (by omega)⟩, ⟨_, rfl, nr (m := 240) k3 (by omega)⟩, ⟨_, rfl, nr (m := 240) k5 (by omega)⟩, topA_ok _, topA_ok _, topA_ok _, ⟨_, rfl, nr (m := 260) k1 (by omega)⟩, ⟨_, rfl, nr (m := 260) k2 (by omega)⟩, ⟨_, rfl, nr (m := 16) k4 (by omega)⟩, gT_mk (t := 200) rfl em ⟨i32lo _, i32hi _⟩, rfl, rfl, rfl, rfl, rfl, rfl, rfl, rfl, rfl, rfl, rfl, rfl, rfl, rfl, rfl, rfl, rfl, ⟨_, rfl, b_newMany⟩, ⟨_, rfl, b_rounds⟩, ⟨_, rfl, b_stampFrom⟩, ⟨_, rfl, b_stampTimes⟩, ⟨_, rfl, b_lines⟩, ⟨_, rfl, b_spot0⟩, ⟨_, rfl, b_pullAcross⟩, ⟨_, rfl, b_pullAlong⟩, ⟨_, rfl, b_stepsNow⟩, ⟨_, rfl, b_fallenNow⟩, rfl, rfl, rfl, rfl, rfl, gT_mk rfl e_isKept b_isKept, trivial⟩, ⟨rfl, rfl, b_tape⟩, ⟨rfl, rfl, of_rg rg_top⟩, ⟨rfl, rfl, of_rg rg_top⟩, ⟨rfl, rfl, of_rg rg_top⟩, ⟨rfl, rfl, of_rg rg_top⟩, ⟨rfl, rfl, of_rg rg_top⟩, ⟨rfl, rfl, of_rg rg_top⟩, ⟨rfl, rfl, of_ex (fun i hi => (encA_ok hi).symm)⟩, ⟨rfl, rfl, of_rg rg_top⟩, ⟨rfl, rfl, of_ex (fun i hi => (encA_ok hi).symm)⟩, ⟨rfl, rfl, of_ex (fun i hi => (encA_ok hi).symm)⟩, ⟨rfl, rfl, of_ex (fun i hi => (encA_ok hi).symm)⟩, trivial⟩
def HX_law40R : List AC := hc_26e9c3401a
def HY_law40R : List AC := hc_a074f70448
set_option maxRecDepth 100000 in
theorem x_law40R {l : Launch} {n : Nat} (h1 : 1 ≤ n ∧ n ≤ 40) : conOkX (MetP l 8 yX12_law cX12_law 4 (some .int) 0 0) [nI n] HX_law40R HY_law40R (fun t => Nat.ble t 200) (fun _ => True) (fun τ τ' y => lwY (ob (fun i => f_and (decA (τ 251) i) 255)) n y) := by
  intro τ hΦ hP h hh
  have z := all2_cons hh
  clear hh
  obtain ⟨e0, h, rfl, g0, hh⟩ := z
  rcases e0 with ⟨t0, n0, f0⟩ | ⟨ci, fs⟩
  · exact g0.elim
  obtain ⟨rfl, gf⟩ := g0
  have z := all2_cons gf
  clear gf
  obtain ⟨v0, fs, rfl, q0, gf⟩ := z
  cases gT_r (τ := τ) (t := 0) (v := v0) rfl q0
  have z := all2_cons gf
  clear gf
  obtain ⟨v0, fs, rfl, q0, gf⟩ := z
  cases gT_r (τ := τ) (t := 1) (v := v0) rfl q0
  have z := all2_cons gf
  clear gf
  obtain ⟨v0, fs, rfl, q0, gf⟩ := z
  cases gT_r (τ := τ) (t := 2) (v := v0) rfl q0
  have z := all2_cons gf
  clear gf
  obtain ⟨v0, fs, rfl, q0, gf⟩ := z
  cases gT_r (τ := τ) (t := 3) (v := v0) rfl q0
  have z := all2_cons gf
  clear gf
  obtain ⟨v0, fs, rfl, q0, gf⟩ := z
  cases gT_r (τ := τ) (t := 4) (v := v0) rfl q0
  have z := all2_cons gf
  clear gf
  obtain ⟨v0, fs, rfl, q0, gf⟩ := z
  cases gT_r (τ := τ) (t := 5) (v := v0) rfl q0
  have z := all2_cons gf
  clear gf
  obtain ⟨v0, fs, rfl, q0, gf⟩ := z
  cases gT_r (τ := τ) (t := 6) (v := v0) rfl q0
  have z := all2_cons gf
  clear gf
  obtain ⟨v0, fs, rfl, q0, gf⟩ := z
  cases gT_r (τ := τ) (t := 7) (v := v0) rfl q0
  have z := all2_cons gf
  clear gf
  obtain ⟨v0, fs, rfl, q0, gf⟩ := z
  obtain ⟨M_stampMany, rfl, b_stampMany⟩ := q0
  have z := all2_cons gf
  clear gf
  obtain ⟨v0, fs, rfl, q0, gf⟩ := z
  cases (q0 : v0 = .inr (some (.inl 1)))
  have z := all2_cons gf
  clear gf
  obtain ⟨v0, fs, rfl, q0, gf⟩ := z
  obtain ⟨M_taped, rfl, b_taped⟩ := q0
  have z := all2_cons gf
  clear gf
  obtain ⟨v0, fs, rfl, q0, gf⟩ := z
  obtain ⟨M_place0, rfl, b_place0⟩ := q0
  have z := all2_cons gf
  clear gf
  obtain ⟨v0, fs, rfl, q0, gf⟩ := z
  obtain ⟨M_length0, rfl, b_length0⟩ := q0
  have z := all2_cons gf
  clear gf
  obtain ⟨v0, fs, rfl, q0, gf⟩ := z
  obtain ⟨M_fault, rfl, b_fault⟩ := q0
  have z := all2_cons gf
  clear gf
  obtain ⟨v0, fs, rfl, q0, gf⟩ := z
  obtain ⟨M_number0, rfl, b_number0⟩ := q0
  have z := all2_cons gf
  clear gf
  obtain ⟨v0, fs, rfl, q0, gf⟩ := z
  obtain ⟨M_open, rfl, b_open⟩ := q0
  have z := all2_cons gf
  clear gf
  obtain ⟨v0, fs, rfl, q0, gf⟩ := z
  obtain ⟨M_codeMany, rfl, b_codeMany⟩ := q0
  have z := all2_cons gf
  clear gf
  obtain ⟨v0, fs, rfl, q0, gf⟩ := z
  obtain ⟨M_waiting, rfl, b_waiting⟩ := q0
  have z := all2_cons gf
  clear gf
  obtain ⟨v0, fs, rfl, q0, gf⟩ := z
  obtain ⟨M_saidMany, rfl, b_saidMany⟩ := q0
  have z := all2_cons gf
  clear gf
  obtain ⟨v0, fs, rfl, q0, gf⟩ := z
  cases gT_i (τ := τ) (t := 200) (v := v0) rfl q0
  have z := all2_cons gf
  clear gf
  obtain ⟨v0, fs, rfl, q0, gf⟩ := z
  cases (q0 : v0 = .inr (some (.inl 2)))
  have z := all2_cons gf
  clear gf
  obtain ⟨v0, fs, rfl, q0, gf⟩ := z
  cases (q0 : v0 = .inr (some (.inl 3)))
  have z := all2_cons gf
  clear gf
  obtain ⟨v0, fs, rfl, q0, gf⟩ := z
  cases (q0 : v0 = .inr (some (.inl 4)))
  have z := all2_cons gf
  clear gf
  obtain ⟨v0, fs, rfl, q0, gf⟩ := z
  cases (q0 : v0 = .inr (some (.inl 5)))
  have z := all2_cons gf
  clear gf
  obtain ⟨v0, fs, rfl, q0, gf⟩ := z
  cases (q0 : v0 = .inr (some (.inl 6)))
  have z := all2_cons gf
  clear gf
  obtain ⟨v0, fs, rfl, q0, gf⟩ := z
  cases (q0 : v0 = .inr (some (.inl 7)))
  have z := all2_cons gf
  clear gf
  obtain ⟨v0, fs, rfl, q0, gf⟩ := z
  cases (q0 : v0 = .inr (some (.inl 8)))
  have z := all2_cons gf
  clear gf
  obtain ⟨v0, fs, rfl, q0, gf⟩ := z
  cases (q0 : v0 = .inr (some (.inl 9)))
  have z := all2_cons gf
  clear gf
  obtain ⟨v0, fs, rfl, q0, gf⟩ := z
  cases (q0 : v0 = .inr (some (.inl 10)))
  have z := all2_cons gf
  clear gf
  obtain ⟨v0, fs, rfl, q0, gf⟩ := z
  cases (q0 : v0 = .inr (some (.inl 11)))
  have z := all2_cons gf
  clear gf
  obtain ⟨v0, fs, rfl, q0, gf⟩ := z
  cases (q0 : v0 = .inr (some (.inl 12)))
  have z := all2_cons gf
  clear gf
  obtain ⟨v0, fs, rfl, q0, gf⟩ := z
  cases gT_r (τ := τ) (t := 8) (v := v0) rfl q0
  have z := all2_cons gf
  clear gf
  obtain ⟨v0, fs, rfl, q0, gf⟩ := z
  cases gT_r (τ := τ) (t := 9) (v := v0) rfl q0
  have z := all2_cons gf
  clear gf
  obtain ⟨v0, fs, rfl, q0, gf⟩ := z
  cases gT_r (τ := τ) (t := 10) (v := v0) rfl q0
  have z := all2_cons gf
  clear gf
  obtain ⟨v0, fs, rfl, q0, gf⟩ := z
  cases gT_r (τ := τ) (t := 11) (v := v0) rfl q0
  have z := all2_cons gf
  clear gf
  obtain ⟨v0, fs, rfl, q0, gf⟩ := z
  cases gT_r (τ := τ) (t := 12) (v := v0) rfl q0
  have z := all2_cons gf
  clear gf
  obtain ⟨v0, fs, rfl, q0, gf⟩ := z
  cases gT_r (τ := τ) (t := 13) (v := v0) rfl q0
  have z := all2_cons gf
  clear gf
  obtain ⟨v0, fs, rfl, q0, gf⟩ := z
  obtain ⟨M_newMany, rfl, b_newMany⟩ := q0
  have z := all2_cons gf
  clear gf
  obtain ⟨v0, fs, rfl, q0, gf⟩ := z
  obtain ⟨M_rounds, rfl, b_rounds⟩ := q0
  have z := all2_cons gf
  clear gf
  obtain ⟨v0, fs, rfl, q0, gf⟩ := z
  obtain ⟨M_stampFrom, rfl, b_stampFrom⟩ := q0
  have z := all2_cons gf
  clear gf
  obtain ⟨v0, fs, rfl, q0, gf⟩ := z
  obtain ⟨M_stampTimes, rfl, b_stampTimes⟩ := q0
  have z := all2_cons gf
  clear gf
  obtain ⟨v0, fs, rfl, q0, gf⟩ := z
  obtain ⟨M_lines, rfl, b_lines⟩ := q0
  have z := all2_cons gf
  clear gf
  obtain ⟨v0, fs, rfl, q0, gf⟩ := z
  obtain ⟨M_spot0, rfl, b_spot0⟩ := q0
  have z := all2_cons gf
  clear gf
  obtain ⟨v0, fs, rfl, q0, gf⟩ := z
  obtain ⟨M_pullAcross, rfl, b_pullAcross⟩ := q0
  have z := all2_cons gf
  clear gf
  obtain ⟨v0, fs, rfl, q0, gf⟩ := z
  obtain ⟨M_pullAlong, rfl, b_pullAlong⟩ := q0
  have z := all2_cons gf
  clear gf
  obtain ⟨v0, fs, rfl, q0, gf⟩ := z
  obtain ⟨M_stepsNow, rfl, b_stepsNow⟩ := q0
  have z := all2_cons gf
  clear gf
  obtain ⟨v0, fs, rfl, q0, gf⟩ := z
  obtain ⟨M_fallenNow, rfl, b_fallenNow⟩ := q0
  have z := all2_cons gf
  clear gf
  obtain ⟨v0, fs, rfl, q0, gf⟩ := z
  cases gT_r (τ := τ) (t := 14) (v := v0) rfl q0
  have z := all2_cons gf
  clear gf
  obtain ⟨v0, fs, rfl, q0, gf⟩ := z
  cases gT_r (τ := τ) (t := 15) (v := v0) rfl q0
  have z := all2_cons gf
  clear gf
  obtain ⟨v0, fs, rfl, q0, gf⟩ := z
  cases gT_r (τ := τ) (t := 16) (v := v0) rfl q0
  have z := all2_cons gf
  clear gf
  obtain ⟨v0, fs, rfl, q0, gf⟩ := z
  cases gT_r (τ := τ) (t := 17) (v := v0) rfl q0
  have z := all2_cons gf
  clear gf
  obtain ⟨v0, fs, rfl, q0, gf⟩ := z
  cases gT_r (τ := τ) (t := 18) (v := v0) rfl q0
  have z := all2_cons gf
  clear gf
  obtain ⟨v0, fs, rfl, q0, gf⟩ := z
  obtain ⟨M_isKept, rfl, e_isKept, b_isKept⟩ := gT_x (τ := τ) (t := 201) (v := v0) rfl q0
  cases fs with
  | cons _ _ => exact gf.elim
  | nil =>
    have z := all2_cons hh
    clear hh
    obtain ⟨e1, h, rfl, g1, hh⟩ := z
    rcases e1 with ⟨t1, n1, M_tape⟩ | ⟨ci, fs⟩
    rotate_left
    · exact g1.elim
    obtain ⟨et, en, b_tape⟩ := g1
    cases (et : t1 = 1)
    cases en
    have z := all2_cons hh
    clear hh
    obtain ⟨e1, h, rfl, g1, hh⟩ := z
    rcases e1 with ⟨t1, n1, M_said⟩ | ⟨ci, fs⟩
    rotate_left
    · exact g1.elim
    obtain ⟨et, en, b_said⟩ := g1
    cases (et : t1 = 0)
    cases en
    have z := all2_cons hh
    clear hh
    obtain ⟨e1, h, rfl, g1, hh⟩ := z
    rcases e1 with ⟨t1, n1, M_waitsAt⟩ | ⟨ci, fs⟩
    rotate_left
    · exact g1.elim
    obtain ⟨et, en, b_waitsAt⟩ := g1
    cases (et : t1 = 0)
    cases en
    have z := all2_cons hh
    clear hh
    obtain ⟨e1, h, rfl, g1, hh⟩ := z
    rcases e1 with ⟨t1, n1, M_saidLetter⟩ | ⟨ci, fs⟩
    rotate_left
    · exact g1.elim
    obtain ⟨et, en, b_saidLetter⟩ := g1
    cases (et : t1 = 0)
    cases en
    have z := all2_cons hh
    clear hh
    obtain ⟨e1, h, rfl, g1, hh⟩ := z
    rcases e1 with ⟨t1, n1, M_saidFrom⟩ | ⟨ci, fs⟩
    rotate_left
    · exact g1.elim
    obtain ⟨et, en, b_saidFrom⟩ := g1
    cases (et : t1 = 0)
    cases en
    have z := all2_cons hh
    clear hh
    obtain ⟨e1, h, rfl, g1, hh⟩ := z
    rcases e1 with ⟨t1, n1, M_saidHalf⟩ | ⟨ci, fs⟩
    rotate_left
    · exact g1.elim
    obtain ⟨et, en, b_saidHalf⟩ := g1
    cases (et : t1 = 0)
    cases en
    have z := all2_cons hh
    clear hh
    obtain ⟨e1, h, rfl, g1, hh⟩ := z
    rcases e1 with ⟨t1, n1, M_saidTo⟩ | ⟨ci, fs⟩
    rotate_left
    · exact g1.elim
    obtain ⟨et, en, b_saidTo⟩ := g1
    cases (et : t1 = 0)
    cases en
    have z := all2_cons hh
    clear hh
    obtain ⟨e1, h, rfl, g1, hh⟩ := z
    rcases e1 with ⟨t1, n1, M_codes⟩ | ⟨ci, fs⟩
    rotate_left
    · exact g1.elim
    obtain ⟨et, en, b_codes⟩ := g1
    cases (et : t1 = 0)
    cases en
    have z := all2_cons hh
    clear hh
    obtain ⟨e1, h, rfl, g1, hh⟩ := z
    rcases e1 with ⟨t1, n1, M_clauseOf⟩ | ⟨ci, fs⟩
    rotate_left
    · exact g1.elim
    obtain ⟨et, en, b_clauseOf⟩ := g1
    cases (et : t1 = 0)
    cases en
    have z := all2_cons hh
    clear hh
    obtain ⟨e1, h, rfl, g1, hh⟩ := z
    rcases e1 with ⟨t1, n1, M_codeFrom⟩ | ⟨ci, fs⟩
    rotate_left
    · exact g1.elim
    obtain ⟨et, en, b_codeFrom⟩ := g1
    cases (et : t1 = 0)
    cases en
    have z := all2_cons hh
    clear hh
    obtain ⟨e1, h, rfl, g1, hh⟩ := z
    rcases e1 with ⟨t1, n1, M_codeHalf⟩ | ⟨ci, fs⟩
    rotate_left
    · exact g1.elim
    obtain ⟨et, en, b_codeHalf⟩ := g1
    cases (et : t1 = 0)
    cases en
    have z := all2_cons hh
    clear hh
    obtain ⟨e1, h, rfl, g1, hh⟩ := z
    rcases e1 with ⟨t1, n1, M_codeTo⟩ | ⟨ci, fs⟩
    rotate_left
    · exact g1.elim
    obtain ⟨et, en, b_codeTo⟩ := g1
    cases (et : t1 = 0)
    cases en
    cases h with
    | cons _ _ => exact hh.elim
    | nil =>
    obtain ⟨t0, ht0, rfl⟩ := rng_n (x := M_waiting) (k := 260) b_waiting.1 b_waiting.2
    obtain ⟨s, hs, rfl⟩ := rng_n (x := M_taped) (k := 260) (by omega) b_taped.2
    have es := sz_n (c := s) (by omega)
    obtain ⟨rF, eF⟩ := rg_x rfl b_tape
    have k5 : n ≤ 240 := by omega
    refine (z_X12_law (b := ob (fun i => f_and (decA (τ 251) i) 255)) (n := n) (t0 := t0) (tn := s) h1.1 k5 (by omega) ht0 hs (fun i hi => ob_ok (f := fun i => f_and (decA (τ 251) i) 255) (F := fun i => f_and (M_tape i) 255) (by omega) (by show f_and (M_tape i) 255 = f_and (decA (τ 251) i) 255; rw [eF i (by omega)]) oct_rng)).mono (fun r h' hp => ?_)
    rcases hp with ⟨y, sd, wt, sl, sf, sh, st, c', t', p', m, v, o, f, rfl, kQ, k1, k2, k3, k4, rfl⟩ | ⟨y, sd, wt, sl, sf, sh, st, cd, co, cf, ch, ct, c', t', p', m, v, o, f, rfl, kQ, k1, k2, k3, k4, k6, rfl⟩
    · exact ⟨τ, y, hΦ, fun _ _ => rfl, rfl, kQ, ⟨⟨rfl, rfl, rfl, rfl, rfl, rfl, rfl, rfl, rfl, ⟨_, rfl, b_stampMany⟩, rfl, ⟨_, rfl, nr (m := 0) (k := 0) (by omega) (by omega)⟩, ⟨_, rfl, nr (m := 240) k3 (by omega)⟩, ⟨_, rfl, nr (m := 240) k5 (by omega)⟩, topA_ok _, topA_ok _, topA_ok _, ⟨_, rfl, nr (m := 260) k1 (by omega)⟩, ⟨_, rfl, nr (m := 260) k2 (by omega)⟩, ⟨_, rfl, nr (m := 16) k4 (by omega)⟩, gT_mk (t := 200) rfl rfl ⟨i32lo _, i32hi _⟩, rfl, rfl, rfl, rfl, rfl, rfl, rfl, rfl, rfl, rfl, rfl, rfl, rfl, rfl, rfl, rfl, rfl, ⟨_, rfl, b_newMany⟩, ⟨_, rfl, b_rounds⟩, ⟨_, rfl, b_stampFrom⟩, ⟨_, rfl, b_stampTimes⟩, ⟨_, rfl, b_lines⟩, ⟨_, rfl, b_spot0⟩, ⟨_, rfl, b_pullAcross⟩, ⟨_, rfl, b_pullAlong⟩, ⟨_, rfl, b_stepsNow⟩, ⟨_, rfl, b_fallenNow⟩, rfl, rfl, rfl, rfl, rfl, gT_mk rfl e_isKept b_isKept, trivial⟩, ⟨rfl, rfl, b_tape⟩, ⟨rfl, rfl, of_rg rg_top⟩, ⟨rfl, rfl, of_rg rg_top⟩, ⟨rfl, rfl, of_rg rg_top⟩, ⟨rfl, rfl, of_rg rg_top⟩, ⟨rfl, rfl, of_rg rg_top⟩, ⟨rfl, rfl, of_rg rg_top⟩, ⟨rfl, rfl, b_codes⟩, ⟨rfl, rfl, b_clauseOf⟩, ⟨rfl, rfl, b_codeFrom⟩, ⟨rfl, rfl, b_codeHalf⟩, ⟨rfl, rfl, b_codeTo⟩, trivial⟩⟩
    · refine ⟨tauL τ cd cf ch ct (nI m), y, tauL_Φ k6, fun t ht => tauL_lo (kT200 ht), rfl, kQ, ?_⟩
      have em : (nI m : Int32) = decA (tauL τ cd cf ch ct (nI m) 200) 0 := tauL_m.symm
      exact ⟨⟨rfl, rfl, rfl, rfl, rfl, rfl, rfl, rfl, rfl, ⟨_, rfl, b_stampMany⟩, rfl, ⟨_, rfl, nr (m := 0) (k := 0) (by omega) (by omega)⟩, ⟨_, rfl, nr (m := 240) k3 (by omega)⟩, ⟨_, rfl, nr (m := 240) k5 (by omega)⟩, topA_ok _, topA_ok _, topA_ok _, ⟨_, rfl, nr (m := 260) k1 (by omega)⟩, ⟨_, rfl, nr (m := 260) k2 (by omega)⟩, ⟨_, rfl, nr (m := 16) k4 (by omega)⟩, gT_mk (t := 200) rfl em ⟨i32lo _, i32hi _⟩, rfl, rfl, rfl, rfl, rfl, rfl, rfl, rfl, rfl, rfl, rfl, rfl, rfl, rfl, rfl, rfl, rfl, ⟨_, rfl, b_newMany⟩, ⟨_, rfl, b_rounds⟩, ⟨_, rfl, b_stampFrom⟩, ⟨_, rfl, b_stampTimes⟩, ⟨_, rfl, b_lines⟩, ⟨_, rfl, b_spot0⟩, ⟨_, rfl, b_pullAcross⟩, ⟨_, rfl, b_pullAlong⟩, ⟨_, rfl, b_stepsNow⟩, ⟨_, rfl, b_fallenNow⟩, rfl, rfl, rfl, rfl, rfl, gT_mk rfl e_isKept b_isKept, trivial⟩, ⟨rfl, rfl, b_tape⟩, ⟨rfl, rfl, of_rg rg_top⟩, ⟨rfl, rfl, of_rg rg_top⟩, ⟨rfl, rfl, of_rg rg_top⟩, ⟨rfl, rfl, of_rg rg_top⟩, ⟨rfl, rfl, of_rg rg_top⟩, ⟨rfl, rfl, of_rg rg_top⟩, ⟨rfl, rfl, of_ex (fun i hi => (encA_ok hi).symm)⟩, ⟨rfl, rfl, of_rg rg_top⟩, ⟨rfl, rfl, of_ex (fun i hi => (encA_ok hi).symm)⟩, ⟨rfl, rfl, of_ex (fun i hi => (encA_ok hi).symm)⟩, ⟨rfl, rfl, of_ex (fun i hi => (encA_ok hi).symm)⟩, trivial⟩
def HX_law60R : List AC := hc_236de6f9b1
def HY_law60R : List AC := hc_a074f70448
set_option maxRecDepth 100000 in
theorem x_law60R {l : Launch} {n : Nat} (h1 : 1 ≤ n ∧ n ≤ 60) : conOkX (MetP l 8 yX12_law cX12_law 4 (some .int) 0 0) [nI n] HX_law60R HY_law60R (fun t => Nat.ble t 200) (fun _ => True) (fun τ τ' y => lwY (ob (fun i => f_and (decA (τ 251) i) 255)) n y) := by
  intro τ hΦ hP h hh
  have z := all2_cons hh
  clear hh
  obtain ⟨e0, h, rfl, g0, hh⟩ := z
  rcases e0 with ⟨t0, n0, f0⟩ | ⟨ci, fs⟩
  · exact g0.elim
  obtain ⟨rfl, gf⟩ := g0
  have z := all2_cons gf
  clear gf
  obtain ⟨v0, fs, rfl, q0, gf⟩ := z
  cases gT_r (τ := τ) (t := 0) (v := v0) rfl q0
  have z := all2_cons gf
  clear gf
  obtain ⟨v0, fs, rfl, q0, gf⟩ := z
  cases gT_r (τ := τ) (t := 1) (v := v0) rfl q0
  have z := all2_cons gf
  clear gf
  obtain ⟨v0, fs, rfl, q0, gf⟩ := z
  cases gT_r (τ := τ) (t := 2) (v := v0) rfl q0
  have z := all2_cons gf
  clear gf
  obtain ⟨v0, fs, rfl, q0, gf⟩ := z
  cases gT_r (τ := τ) (t := 3) (v := v0) rfl q0
  have z := all2_cons gf
  clear gf
  obtain ⟨v0, fs, rfl, q0, gf⟩ := z
  cases gT_r (τ := τ) (t := 4) (v := v0) rfl q0
  have z := all2_cons gf
  clear gf
  obtain ⟨v0, fs, rfl, q0, gf⟩ := z
  cases gT_r (τ := τ) (t := 5) (v := v0) rfl q0
  have z := all2_cons gf
  clear gf
  obtain ⟨v0, fs, rfl, q0, gf⟩ := z
  cases gT_r (τ := τ) (t := 6) (v := v0) rfl q0
  have z := all2_cons gf
  clear gf
  obtain ⟨v0, fs, rfl, q0, gf⟩ := z
  cases gT_r (τ := τ) (t := 7) (v := v0) rfl q0
  have z := all2_cons gf
  clear gf
  obtain ⟨v0, fs, rfl, q0, gf⟩ := z
  obtain ⟨M_stampMany, rfl, b_stampMany⟩ := q0
  have z := all2_cons gf
  clear gf
  obtain ⟨v0, fs, rfl, q0, gf⟩ := z
  cases (q0 : v0 = .inr (some (.inl 1)))
  have z := all2_cons gf
  clear gf
  obtain ⟨v0, fs, rfl, q0, gf⟩ := z
  obtain ⟨M_taped, rfl, b_taped⟩ := q0
  have z := all2_cons gf
  clear gf
  obtain ⟨v0, fs, rfl, q0, gf⟩ := z
  obtain ⟨M_place0, rfl, b_place0⟩ := q0
  have z := all2_cons gf
  clear gf
  obtain ⟨v0, fs, rfl, q0, gf⟩ := z
  obtain ⟨M_length0, rfl, b_length0⟩ := q0
  have z := all2_cons gf
  clear gf
  obtain ⟨v0, fs, rfl, q0, gf⟩ := z
  obtain ⟨M_fault, rfl, b_fault⟩ := q0
  have z := all2_cons gf
  clear gf
  obtain ⟨v0, fs, rfl, q0, gf⟩ := z
  obtain ⟨M_number0, rfl, b_number0⟩ := q0
  have z := all2_cons gf
  clear gf
  obtain ⟨v0, fs, rfl, q0, gf⟩ := z
  obtain ⟨M_open, rfl, b_open⟩ := q0
  have z := all2_cons gf
  clear gf
  obtain ⟨v0, fs, rfl, q0, gf⟩ := z
  obtain ⟨M_codeMany, rfl, b_codeMany⟩ := q0
  have z := all2_cons gf
  clear gf
  obtain ⟨v0, fs, rfl, q0, gf⟩ := z
  obtain ⟨M_waiting, rfl, b_waiting⟩ := q0
  have z := all2_cons gf
  clear gf
  obtain ⟨v0, fs, rfl, q0, gf⟩ := z
  obtain ⟨M_saidMany, rfl, b_saidMany⟩ := q0
  have z := all2_cons gf
  clear gf
  obtain ⟨v0, fs, rfl, q0, gf⟩ := z
  cases gT_i (τ := τ) (t := 200) (v := v0) rfl q0
  have z := all2_cons gf
  clear gf
  obtain ⟨v0, fs, rfl, q0, gf⟩ := z
  cases (q0 : v0 = .inr (some (.inl 2)))
  have z := all2_cons gf
  clear gf
  obtain ⟨v0, fs, rfl, q0, gf⟩ := z
  cases (q0 : v0 = .inr (some (.inl 3)))
  have z := all2_cons gf
  clear gf
  obtain ⟨v0, fs, rfl, q0, gf⟩ := z
  cases (q0 : v0 = .inr (some (.inl 4)))
  have z := all2_cons gf
  clear gf
  obtain ⟨v0, fs, rfl, q0, gf⟩ := z
  cases (q0 : v0 = .inr (some (.inl 5)))
  have z := all2_cons gf
  clear gf
  obtain ⟨v0, fs, rfl, q0, gf⟩ := z
  cases (q0 : v0 = .inr (some (.inl 6)))
  have z := all2_cons gf
  clear gf
  obtain ⟨v0, fs, rfl, q0, gf⟩ := z
  cases (q0 : v0 = .inr (some (.inl 7)))
  have z := all2_cons gf
  clear gf
  obtain ⟨v0, fs, rfl, q0, gf⟩ := z
  cases (q0 : v0 = .inr (some (.inl 8)))
  have z := all2_cons gf
  clear gf
  obtain ⟨v0, fs, rfl, q0, gf⟩ := z
  cases (q0 : v0 = .inr (some (.inl 9)))
  have z := all2_cons gf
  clear gf
  obtain ⟨v0, fs, rfl, q0, gf⟩ := z
  cases (q0 : v0 = .inr (some (.inl 10)))
  have z := all2_cons gf
  clear gf
  obtain ⟨v0, fs, rfl, q0, gf⟩ := z
  cases (q0 : v0 = .inr (some (.inl 11)))
  have z := all2_cons gf
  clear gf
  obtain ⟨v0, fs, rfl, q0, gf⟩ := z
  cases (q0 : v0 = .inr (some (.inl 12)))
  have z := all2_cons gf
  clear gf
  obtain ⟨v0, fs, rfl, q0, gf⟩ := z
  cases gT_r (τ := τ) (t := 8) (v := v0) rfl q0
  have z := all2_cons gf
  clear gf
  obtain ⟨v0, fs, rfl, q0, gf⟩ := z
  cases gT_r (τ := τ) (t := 9) (v := v0) rfl q0
  have z := all2_cons gf
  clear gf
  obtain ⟨v0, fs, rfl, q0, gf⟩ := z
  cases gT_r (τ := τ) (t := 10) (v := v0) rfl q0
  have z := all2_cons gf
  clear gf
  obtain ⟨v0, fs, rfl, q0, gf⟩ := z
  cases gT_r (τ := τ) (t := 11) (v := v0) rfl q0
  have z := all2_cons gf
  clear gf
  obtain ⟨v0, fs, rfl, q0, gf⟩ := z
  cases gT_r (τ := τ) (t := 12) (v := v0) rfl q0
  have z := all2_cons gf
  clear gf
  obtain ⟨v0, fs, rfl, q0, gf⟩ := z
  cases gT_r (τ := τ) (t := 13) (v := v0) rfl q0
  have z := all2_cons gf
  clear gf
  obtain ⟨v0, fs, rfl, q0, gf⟩ := z
  obtain ⟨M_newMany, rfl, b_newMany⟩ := q0
  have z := all2_cons gf
  clear gf
  obtain ⟨v0, fs, rfl, q0, gf⟩ := z
  obtain ⟨M_rounds, rfl, b_rounds⟩ := q0
  have z := all2_cons gf
  clear gf
  obtain ⟨v0, fs, rfl, q0, gf⟩ := z
  obtain ⟨M_stampFrom, rfl, b_stampFrom⟩ := q0
  have z := all2_cons gf
  clear gf
  obtain ⟨v0, fs, rfl, q0, gf⟩ := z
  obtain ⟨M_stampTimes, rfl, b_stampTimes⟩ := q0
  have z := all2_cons gf
  clear gf
  obtain ⟨v0, fs, rfl, q0, gf⟩ := z
  obtain ⟨M_lines, rfl, b_lines⟩ := q0
  have z := all2_cons gf
  clear gf
  obtain ⟨v0, fs, rfl, q0, gf⟩ := z
  obtain ⟨M_spot0, rfl, b_spot0⟩ := q0
  have z := all2_cons gf
  clear gf
  obtain ⟨v0, fs, rfl, q0, gf⟩ := z
  obtain ⟨M_pullAcross, rfl, b_pullAcross⟩ := q0
  have z := all2_cons gf
  clear gf
  obtain ⟨v0, fs, rfl, q0, gf⟩ := z
  obtain ⟨M_pullAlong, rfl, b_pullAlong⟩ := q0
  have z := all2_cons gf
  clear gf
  obtain ⟨v0, fs, rfl, q0, gf⟩ := z
  obtain ⟨M_stepsNow, rfl, b_stepsNow⟩ := q0
  have z := all2_cons gf
  clear gf
  obtain ⟨v0, fs, rfl, q0, gf⟩ := z
  obtain ⟨M_fallenNow, rfl, b_fallenNow⟩ := q0
  have z := all2_cons gf
  clear gf
  obtain ⟨v0, fs, rfl, q0, gf⟩ := z
  cases gT_r (τ := τ) (t := 14) (v := v0) rfl q0
  have z := all2_cons gf
  clear gf
  obtain ⟨v0, fs, rfl, q0, gf⟩ := z
  cases gT_r (τ := τ) (t := 15) (v := v0) rfl q0
  have z := all2_cons gf
  clear gf
  obtain ⟨v0, fs, rfl, q0, gf⟩ := z
  cases gT_r (τ := τ) (t := 16) (v := v0) rfl q0
  have z := all2_cons gf
  clear gf
  obtain ⟨v0, fs, rfl, q0, gf⟩ := z
  cases gT_r (τ := τ) (t := 17) (v := v0) rfl q0
  have z := all2_cons gf
  clear gf
  obtain ⟨v0, fs, rfl, q0, gf⟩ := z
  cases gT_r (τ := τ) (t := 18) (v := v0) rfl q0
  have z := all2_cons gf
  clear gf
  obtain ⟨v0, fs, rfl, q0, gf⟩ := z
  obtain ⟨M_isKept, rfl, e_isKept, b_isKept⟩ := gT_x (τ := τ) (t := 201) (v := v0) rfl q0
  cases fs with
  | cons _ _ => exact gf.elim
  | nil =>
    have z := all2_cons hh
    clear hh
    obtain ⟨e1, h, rfl, g1, hh⟩ := z
    rcases e1 with ⟨t1, n1, M_tape⟩ | ⟨ci, fs⟩
    rotate_left
    · exact g1.elim
    obtain ⟨et, en, b_tape⟩ := g1
    cases (et : t1 = 1)
    cases en
    have z := all2_cons hh
    clear hh
    obtain ⟨e1, h, rfl, g1, hh⟩ := z
    rcases e1 with ⟨t1, n1, M_said⟩ | ⟨ci, fs⟩
    rotate_left
    · exact g1.elim
    obtain ⟨et, en, b_said⟩ := g1
    cases (et : t1 = 0)
    cases en
    have z := all2_cons hh
    clear hh
    obtain ⟨e1, h, rfl, g1, hh⟩ := z
    rcases e1 with ⟨t1, n1, M_waitsAt⟩ | ⟨ci, fs⟩
    rotate_left
    · exact g1.elim
    obtain ⟨et, en, b_waitsAt⟩ := g1
    cases (et : t1 = 0)
    cases en
    have z := all2_cons hh
    clear hh
    obtain ⟨e1, h, rfl, g1, hh⟩ := z
    rcases e1 with ⟨t1, n1, M_saidLetter⟩ | ⟨ci, fs⟩
    rotate_left
    · exact g1.elim
    obtain ⟨et, en, b_saidLetter⟩ := g1
    cases (et : t1 = 0)
    cases en
    have z := all2_cons hh
    clear hh
    obtain ⟨e1, h, rfl, g1, hh⟩ := z
    rcases e1 with ⟨t1, n1, M_saidFrom⟩ | ⟨ci, fs⟩
    rotate_left
    · exact g1.elim
    obtain ⟨et, en, b_saidFrom⟩ := g1
    cases (et : t1 = 0)
    cases en
    have z := all2_cons hh
    clear hh
    obtain ⟨e1, h, rfl, g1, hh⟩ := z
    rcases e1 with ⟨t1, n1, M_saidHalf⟩ | ⟨ci, fs⟩
    rotate_left
    · exact g1.elim
    obtain ⟨et, en, b_saidHalf⟩ := g1
    cases (et : t1 = 0)
    cases en
    have z := all2_cons hh
    clear hh
    obtain ⟨e1, h, rfl, g1, hh⟩ := z
    rcases e1 with ⟨t1, n1, M_saidTo⟩ | ⟨ci, fs⟩
    rotate_left
    · exact g1.elim
    obtain ⟨et, en, b_saidTo⟩ := g1
    cases (et : t1 = 0)
    cases en
    have z := all2_cons hh
    clear hh
    obtain ⟨e1, h, rfl, g1, hh⟩ := z
    rcases e1 with ⟨t1, n1, M_codes⟩ | ⟨ci, fs⟩
    rotate_left
    · exact g1.elim
    obtain ⟨et, en, b_codes⟩ := g1
    cases (et : t1 = 0)
    cases en
    have z := all2_cons hh
    clear hh
    obtain ⟨e1, h, rfl, g1, hh⟩ := z
    rcases e1 with ⟨t1, n1, M_clauseOf⟩ | ⟨ci, fs⟩
    rotate_left
    · exact g1.elim
    obtain ⟨et, en, b_clauseOf⟩ := g1
    cases (et : t1 = 0)
    cases en
    have z := all2_cons hh
    clear hh
    obtain ⟨e1, h, rfl, g1, hh⟩ := z
    rcases e1 with ⟨t1, n1, M_codeFrom⟩ | ⟨ci, fs⟩
    rotate_left
    · exact g1.elim
    obtain ⟨et, en, b_codeFrom⟩ := g1
    cases (et : t1 = 0)
    cases en
    have z := all2_cons hh
    clear hh
    obtain ⟨e1, h, rfl, g1, hh⟩ := z
    rcases e1 with ⟨t1, n1, M_codeHalf⟩ | ⟨ci, fs⟩
    rotate_left
    · exact g1.elim
    obtain ⟨et, en, b_codeHalf⟩ := g1
    cases (et : t1 = 0)
    cases en
    have z := all2_cons hh
    clear hh
    obtain ⟨e1, h, rfl, g1, hh⟩ := z
    rcases e1 with ⟨t1, n1, M_codeTo⟩ | ⟨ci, fs⟩
    rotate_left
    · exact g1.elim
    obtain ⟨et, en, b_codeTo⟩ := g1
    cases (et : t1 = 0)
    cases en
    cases h with
    | cons _ _ => exact hh.elim
    | nil =>
    obtain ⟨t0, ht0, rfl⟩ := rng_n (x := M_waiting) (k := 260) b_waiting.1 b_waiting.2
    obtain ⟨s, hs, rfl⟩ := rng_n (x := M_taped) (k := 260) (by omega) b_taped.2
    have es := sz_n (c := s) (by omega)
    obtain ⟨rF, eF⟩ := rg_x rfl b_tape
    have k5 : n ≤ 240 := by omega
    refine (z_X12_law (b := ob (fun i => f_and (decA (τ 251) i) 255)) (n := n) (t0 := t0) (tn := s) h1.1 k5 (by omega) ht0 hs (fun i hi => ob_ok (f := fun i => f_and (decA (τ 251) i) 255) (F := fun i => f_and (M_tape i) 255) (by omega) (by show f_and (M_tape i) 255 = f_and (decA (τ 251) i) 255; rw [eF i (by omega)]) oct_rng)).mono (fun r h' hp => ?_)
    rcases hp with ⟨y, sd, wt, sl, sf, sh, st, c', t', p', m, v, o, f, rfl, kQ, k1, k2, k3, k4, rfl⟩ | ⟨y, sd, wt, sl, sf, sh, st, cd, co, cf, ch, ct, c', t', p', m, v, o, f, rfl, kQ, k1, k2, k3, k4, k6, rfl⟩
    · exact ⟨τ, y, hΦ, fun _ _ => rfl, rfl, kQ, ⟨⟨rfl, rfl, rfl, rfl, rfl, rfl, rfl, rfl, rfl, ⟨_, rfl, b_stampMany⟩, rfl, ⟨_, rfl, nr (m := 0) (k := 0) (by omega) (by omega)⟩, ⟨_, rfl, nr (m := 240) k3 (by omega)⟩, ⟨_, rfl, nr (m := 240) k5 (by omega)⟩, topA_ok _, topA_ok _, topA_ok _, ⟨_, rfl, nr (m := 260) k1 (by omega)⟩, ⟨_, rfl, nr (m := 260) k2 (by omega)⟩, ⟨_, rfl, nr (m := 16) k4 (by omega)⟩, gT_mk (t := 200) rfl rfl ⟨i32lo _, i32hi _⟩, rfl, rfl, rfl, rfl, rfl, rfl, rfl, rfl, rfl, rfl, rfl, rfl, rfl, rfl, rfl, rfl, rfl, ⟨_, rfl, b_newMany⟩, ⟨_, rfl, b_rounds⟩, ⟨_, rfl, b_stampFrom⟩, ⟨_, rfl, b_stampTimes⟩, ⟨_, rfl, b_lines⟩, ⟨_, rfl, b_spot0⟩, ⟨_, rfl, b_pullAcross⟩, ⟨_, rfl, b_pullAlong⟩, ⟨_, rfl, b_stepsNow⟩, ⟨_, rfl, b_fallenNow⟩, rfl, rfl, rfl, rfl, rfl, gT_mk rfl e_isKept b_isKept, trivial⟩, ⟨rfl, rfl, b_tape⟩, ⟨rfl, rfl, of_rg rg_top⟩, ⟨rfl, rfl, of_rg rg_top⟩, ⟨rfl, rfl, of_rg rg_top⟩, ⟨rfl, rfl, of_rg rg_top⟩, ⟨rfl, rfl, of_rg rg_top⟩, ⟨rfl, rfl, of_rg rg_top⟩, ⟨rfl, rfl, b_codes⟩, ⟨rfl, rfl, b_clauseOf⟩, ⟨rfl, rfl, b_codeFrom⟩, ⟨rfl, rfl, b_codeHalf⟩, ⟨rfl, rfl, b_codeTo⟩, trivial⟩⟩
    · refine ⟨tauL τ cd cf ch ct (nI m), y, tauL_Φ k6, fun t ht => tauL_lo (kT200 ht), rfl, kQ, ?_⟩
      have em : (nI m : Int32) = decA (tauL τ cd cf ch ct (nI m) 200) 0 := tauL_m.symm
      exact ⟨⟨rfl, rfl, rfl, rfl, rfl, rfl, rfl, rfl, rfl, ⟨_, rfl, b_stampMany⟩, rfl, ⟨_, rfl, nr (m := 0) (k := 0) (by omega) (by omega)⟩, ⟨_, rfl, nr (m := 240) k3 (by omega)⟩, ⟨_, rfl, nr (m := 240) k5 (by omega)⟩, topA_ok _, topA_ok _, topA_ok _, ⟨_, rfl, nr (m := 260) k1 (by omega)⟩, ⟨_, rfl, nr (m := 260) k2 (by omega)⟩, ⟨_, rfl, nr (m := 16) k4 (by omega)⟩, gT_mk (t := 200) rfl em ⟨i32lo _, i32hi _⟩, rfl, rfl, rfl, rfl, rfl, rfl, rfl, rfl, rfl, rfl, rfl, rfl, rfl, rfl, rfl, rfl, rfl, ⟨_, rfl, b_newMany⟩, ⟨_, rfl, b_rounds⟩, ⟨_, rfl, b_stampFrom⟩, ⟨_, rfl, b_stampTimes⟩, ⟨_, rfl, b_lines⟩, ⟨_, rfl, b_spot0⟩, ⟨_, rfl, b_pullAcross⟩, ⟨_, rfl, b_pullAlong⟩, ⟨_, rfl, b_stepsNow⟩, ⟨_, rfl, b_fallenNow⟩, rfl, rfl, rfl, rfl, rfl, gT_mk rfl e_isKept b_isKept, trivial⟩, ⟨rfl, rfl, b_tape⟩, ⟨rfl, rfl, of_rg rg_top⟩, ⟨rfl, rfl, of_rg rg_top⟩, ⟨rfl, rfl, of_rg rg_top⟩, ⟨rfl, rfl, of_rg rg_top⟩, ⟨rfl, rfl, of_rg rg_top⟩, ⟨rfl, rfl, of_rg rg_top⟩, ⟨rfl, rfl, of_ex (fun i hi => (encA_ok hi).symm)⟩, ⟨rfl, rfl, of_rg rg_top⟩, ⟨rfl, rfl, of_ex (fun i hi => (encA_ok hi).symm)⟩, ⟨rfl, rfl, of_ex (fun i hi => (encA_ok hi).symm)⟩, ⟨rfl, rfl, of_ex (fun i hi => (encA_ok hi).symm)⟩, trivial⟩
def HX_law80R : List AC := hc_85959bfb74
def HY_law80R : List AC := hc_a074f70448
set_option maxRecDepth 100000 in
theorem x_law80R {l : Launch} {n : Nat} (h1 : 1 ≤ n ∧ n ≤ 80) : conOkX (MetP l 8 yX12_law cX12_law 4 (some .int) 0 0) [nI n] HX_law80R HY_law80R (fun t => Nat.ble t 200) (fun _ => True) (fun τ τ' y => lwY (ob (fun i => f_and (decA (τ 251) i) 255)) n y) := by
  intro τ hΦ hP h hh
  have z := all2_cons hh
  clear hh
  obtain ⟨e0, h, rfl, g0, hh⟩ := z
  rcases e0 with ⟨t0, n0, f0⟩ | ⟨ci, fs⟩
  · exact g0.elim
  obtain ⟨rfl, gf⟩ := g0
  have z := all2_cons gf
  clear gf
  obtain ⟨v0, fs, rfl, q0, gf⟩ := z
  cases gT_r (τ := τ) (t := 0) (v := v0) rfl q0
  have z := all2_cons gf
  clear gf
  obtain ⟨v0, fs, rfl, q0, gf⟩ := z
  cases gT_r (τ := τ) (t := 1) (v := v0) rfl q0
  have z := all2_cons gf
  clear gf
  obtain ⟨v0, fs, rfl, q0, gf⟩ := z
  cases gT_r (τ := τ) (t := 2) (v := v0) rfl q0
  have z := all2_cons gf
  clear gf
  obtain ⟨v0, fs, rfl, q0, gf⟩ := z
  cases gT_r (τ := τ) (t := 3) (v := v0) rfl q0
  have z := all2_cons gf
  clear gf
  obtain ⟨v0, fs, rfl, q0, gf⟩ := z
  cases gT_r (τ := τ) (t := 4) (v := v0) rfl q0
  have z := all2_cons gf
  clear gf
  obtain ⟨v0, fs, rfl, q0, gf⟩ := z
  cases gT_r (τ := τ) (t := 5) (v := v0) rfl q0
  have z := all2_cons gf
  clear gf
  obtain ⟨v0, fs, rfl, q0, gf⟩ := z
  cases gT_r (τ := τ) (t := 6) (v := v0) rfl q0
  have z := all2_cons gf
  clear gf
  obtain ⟨v0, fs, rfl, q0, gf⟩ := z
  cases gT_r (τ := τ) (t := 7) (v := v0) rfl q0
  have z := all2_cons gf
  clear gf
  obtain ⟨v0, fs, rfl, q0, gf⟩ := z
  obtain ⟨M_stampMany, rfl, b_stampMany⟩ := q0
  have z := all2_cons gf
  clear gf
  obtain ⟨v0, fs, rfl, q0, gf⟩ := z
  cases (q0 : v0 = .inr (some (.inl 1)))
  have z := all2_cons gf
  clear gf
  obtain ⟨v0, fs, rfl, q0, gf⟩ := z
  obtain ⟨M_taped, rfl, b_taped⟩ := q0
  have z := all2_cons gf
  clear gf
  obtain ⟨v0, fs, rfl, q0, gf⟩ := z
  obtain ⟨M_place0, rfl, b_place0⟩ := q0
  have z := all2_cons gf
  clear gf
  obtain ⟨v0, fs, rfl, q0, gf⟩ := z
  obtain ⟨M_length0, rfl, b_length0⟩ := q0
  have z := all2_cons gf
  clear gf
  obtain ⟨v0, fs, rfl, q0, gf⟩ := z
  obtain ⟨M_fault, rfl, b_fault⟩ := q0
  have z := all2_cons gf
  clear gf
  obtain ⟨v0, fs, rfl, q0, gf⟩ := z
  obtain ⟨M_number0, rfl, b_number0⟩ := q0
  have z := all2_cons gf
  clear gf
  obtain ⟨v0, fs, rfl, q0, gf⟩ := z
  obtain ⟨M_open, rfl, b_open⟩ := q0
  have z := all2_cons gf
  clear gf
  obtain ⟨v0, fs, rfl, q0, gf⟩ := z
  obtain ⟨M_codeMany, rfl, b_codeMany⟩ := q0
  have z := all2_cons gf
  clear gf
  obtain ⟨v0, fs, rfl, q0, gf⟩ := z
  obtain ⟨M_waiting, rfl, b_waiting⟩ := q0
  have z := all2_cons gf
  clear gf
  obtain ⟨v0, fs, rfl, q0, gf⟩ := z
  obtain ⟨M_saidMany, rfl, b_saidMany⟩ := q0
  have z := all2_cons gf
  clear gf
  obtain ⟨v0, fs, rfl, q0, gf⟩ := z
  cases gT_i (τ := τ) (t := 200) (v := v0) rfl q0
  have z := all2_cons gf
  clear gf
  obtain ⟨v0, fs, rfl, q0, gf⟩ := z
  cases (q0 : v0 = .inr (some (.inl 2)))
  have z := all2_cons gf
  clear gf
  obtain ⟨v0, fs, rfl, q0, gf⟩ := z
  cases (q0 : v0 = .inr (some (.inl 3)))
  have z := all2_cons gf
  clear gf
  obtain ⟨v0, fs, rfl, q0, gf⟩ := z
  cases (q0 : v0 = .inr (some (.inl 4)))
  have z := all2_cons gf
  clear gf
  obtain ⟨v0, fs, rfl, q0, gf⟩ := z
  cases (q0 : v0 = .inr (some (.inl 5)))
  have z := all2_cons gf
  clear gf
  obtain ⟨v0, fs, rfl, q0, gf⟩ := z
  cases (q0 : v0 = .inr (some (.inl 6)))
  have z := all2_cons gf
  clear gf
  obtain ⟨v0, fs, rfl, q0, gf⟩ := z
  cases (q0 : v0 = .inr (some (.inl 7)))
  have z := all2_cons gf
  clear gf
  obtain ⟨v0, fs, rfl, q0, gf⟩ := z
  cases (q0 : v0 = .inr (some (.inl 8)))
  have z := all2_cons gf
  clear gf
  obtain ⟨v0, fs, rfl, q0, gf⟩ := z
  cases (q0 : v0 = .inr (some (.inl 9)))
  have z := all2_cons gf
  clear gf
  obtain ⟨v0, fs, rfl, q0, gf⟩ := z
  cases (q0 : v0 = .inr (some (.inl 10)))
  have z := all2_cons gf
  clear gf
  obtain ⟨v0, fs, rfl, q0, gf⟩ := z
  cases (q0 : v0 = .inr (some (.inl 11)))
  have z := all2_cons gf
  clear gf
  obtain ⟨v0, fs, rfl, q0, gf⟩ := z
  cases (q0 : v0 = .inr (some (.inl 12)))
  have z := all2_cons gf
  clear gf
  obtain ⟨v0, fs, rfl, q0, gf⟩ := z
  cases gT_r (τ := τ) (t := 8) (v := v0) rfl q0
  have z := all2_cons gf
  clear gf
  obtain ⟨v0, fs, rfl, q0, gf⟩ := z
  cases gT_r (τ := τ) (t := 9) (v := v0) rfl q0
  have z := all2_cons gf
  clear gf
  obtain ⟨v0, fs, rfl, q0, gf⟩ := z
  cases gT_r (τ := τ) (t := 10) (v := v0) rfl q0
  have z := all2_cons gf
  clear gf
  obtain ⟨v0, fs, rfl, q0, gf⟩ := z
  cases gT_r (τ := τ) (t := 11) (v := v0) rfl q0
  have z := all2_cons gf
  clear gf
  obtain ⟨v0, fs, rfl, q0, gf⟩ := z
  cases gT_r (τ := τ) (t := 12) (v := v0) rfl q0
  have z := all2_cons gf
  clear gf
  obtain ⟨v0, fs, rfl, q0, gf⟩ := z
  cases gT_r (τ := τ) (t := 13) (v := v0) rfl q0
  have z := all2_cons gf
  clear gf
  obtain ⟨v0, fs, rfl, q0, gf⟩ := z
  obtain ⟨M_newMany, rfl, b_newMany⟩ := q0
  have z := all2_cons gf
  clear gf
  obtain ⟨v0, fs, rfl, q0, gf⟩ := z
  obtain ⟨M_rounds, rfl, b_rounds⟩ := q0
  have z := all2_cons gf
  clear gf
  obtain ⟨v0, fs, rfl, q0, gf⟩ := z
  obtain ⟨M_stampFrom, rfl, b_stampFrom⟩ := q0
  have z := all2_cons gf
  clear gf
  obtain ⟨v0, fs, rfl, q0, gf⟩ := z
  obtain ⟨M_stampTimes, rfl, b_stampTimes⟩ := q0
  have z := all2_cons gf
  clear gf
  obtain ⟨v0, fs, rfl, q0, gf⟩ := z
  obtain ⟨M_lines, rfl, b_lines⟩ := q0
  have z := all2_cons gf
  clear gf
  obtain ⟨v0, fs, rfl, q0, gf⟩ := z
  obtain ⟨M_spot0, rfl, b_spot0⟩ := q0
  have z := all2_cons gf
  clear gf
  obtain ⟨v0, fs, rfl, q0, gf⟩ := z
  obtain ⟨M_pullAcross, rfl, b_pullAcross⟩ := q0
  have z := all2_cons gf
  clear gf
  obtain ⟨v0, fs, rfl, q0, gf⟩ := z
  obtain ⟨M_pullAlong, rfl, b_pullAlong⟩ := q0
  have z := all2_cons gf
  clear gf
  obtain ⟨v0, fs, rfl, q0, gf⟩ := z
  obtain ⟨M_stepsNow, rfl, b_stepsNow⟩ := q0
  have z := all2_cons gf
  clear gf
  obtain ⟨v0, fs, rfl, q0, gf⟩ := z
  obtain ⟨M_fallenNow, rfl, b_fallenNow⟩ := q0
  have z := all2_cons gf
  clear gf
  obtain ⟨v0, fs, rfl, q0, gf⟩ := z
  cases gT_r (τ := τ) (t := 14) (v := v0) rfl q0
  have z := all2_cons gf
  clear gf
  obtain ⟨v0, fs, rfl, q0, gf⟩ := z
  cases gT_r (τ := τ) (t := 15) (v := v0) rfl q0
  have z := all2_cons gf
  clear gf
  obtain ⟨v0, fs, rfl, q0, gf⟩ := z
  cases gT_r (τ := τ) (t := 16) (v := v0) rfl q0
  have z := all2_cons gf
  clear gf
  obtain ⟨v0, fs, rfl, q0, gf⟩ := z
  cases gT_r (τ := τ) (t := 17) (v := v0) rfl q0
  have z := all2_cons gf
  clear gf
  obtain ⟨v0, fs, rfl, q0, gf⟩ := z
  cases gT_r (τ := τ) (t := 18) (v := v0) rfl q0
  have z := all2_cons gf
  clear gf
  obtain ⟨v0, fs, rfl, q0, gf⟩ := z
  obtain ⟨M_isKept, rfl, e_isKept, b_isKept⟩ := gT_x (τ := τ) (t := 201) (v := v0) rfl q0
  cases fs with
  | cons _ _ => exact gf.elim
  | nil =>
    have z := all2_cons hh
    clear hh
    obtain ⟨e1, h, rfl, g1, hh⟩ := z
    rcases e1 with ⟨t1, n1, M_tape⟩ | ⟨ci, fs⟩
    rotate_left
    · exact g1.elim
    obtain ⟨et, en, b_tape⟩ := g1
    cases (et : t1 = 1)
    cases en
    have z := all2_cons hh
    clear hh
    obtain ⟨e1, h, rfl, g1, hh⟩ := z
    rcases e1 with ⟨t1, n1, M_said⟩ | ⟨ci, fs⟩
    rotate_left
    · exact g1.elim
    obtain ⟨et, en, b_said⟩ := g1
    cases (et : t1 = 0)
    cases en
    have z := all2_cons hh
    clear hh
    obtain ⟨e1, h, rfl, g1, hh⟩ := z
    rcases e1 with ⟨t1, n1, M_waitsAt⟩ | ⟨ci, fs⟩
    rotate_left
    · exact g1.elim
    obtain ⟨et, en, b_waitsAt⟩ := g1
    cases (et : t1 = 0)
    cases en
    have z := all2_cons hh
    clear hh
    obtain ⟨e1, h, rfl, g1, hh⟩ := z
    rcases e1 with ⟨t1, n1, M_saidLetter⟩ | ⟨ci, fs⟩
    rotate_left
    · exact g1.elim
    obtain ⟨et, en, b_saidLetter⟩ := g1
    cases (et : t1 = 0)
    cases en
    have z := all2_cons hh
    clear hh
    obtain ⟨e1, h, rfl, g1, hh⟩ := z
    rcases e1 with ⟨t1, n1, M_saidFrom⟩ | ⟨ci, fs⟩
    rotate_left
    · exact g1.elim
    obtain ⟨et, en, b_saidFrom⟩ := g1
    cases (et : t1 = 0)
    cases en
    have z := all2_cons hh
    clear hh
    obtain ⟨e1, h, rfl, g1, hh⟩ := z
    rcases e1 with ⟨t1, n1, M_saidHalf⟩ | ⟨ci, fs⟩
    rotate_left
    · exact g1.elim
    obtain ⟨et, en, b_saidHalf⟩ := g1
    cases (et : t1 = 0)
    cases en
    have z := all2_cons hh
    clear hh
    obtain ⟨e1, h, rfl, g1, hh⟩ := z
    rcases e1 with ⟨t1, n1, M_saidTo⟩ | ⟨ci, fs⟩
    rotate_left
    · exact g1.elim
    obtain ⟨et, en, b_saidTo⟩ := g1
    cases (et : t1 = 0)
    cases en
    have z := all2_cons hh
    clear hh
    obtain ⟨e1, h, rfl, g1, hh⟩ := z
    rcases e1 with ⟨t1, n1, M_codes⟩ | ⟨ci, fs⟩
    rotate_left
    · exact g1.elim
    obtain ⟨et, en, b_codes⟩ := g1
    cases (et : t1 = 0)
    cases en
    have z := all2_cons hh
    clear hh
    obtain ⟨e1, h, rfl, g1, hh⟩ := z
    rcases e1 with ⟨t1, n1, M_clauseOf⟩ | ⟨ci, fs⟩
    rotate_left
    · exact g1.elim
    obtain ⟨et, en, b_clauseOf⟩ := g1
    cases (et : t1 = 0)
    cases en
    have z := all2_cons hh
    clear hh
    obtain ⟨e1, h, rfl, g1, hh⟩ := z
    rcases e1 with ⟨t1, n1, M_codeFrom⟩ | ⟨ci, fs⟩
    rotate_left
    · exact g1.elim
    obtain ⟨et, en, b_codeFrom⟩ := g1
    cases (et : t1 = 0)
    cases en
    have z := all2_cons hh
    clear hh
    obtain ⟨e1, h, rfl, g1, hh⟩ := z
    rcases e1 with ⟨t1, n1, M_codeHalf⟩ | ⟨ci, fs⟩
    rotate_left
    · exact g1.elim
    obtain ⟨et, en, b_codeHalf⟩ := g1
    cases (et : t1 = 0)
    cases en
    have z := all2_cons hh
    clear hh
    obtain ⟨e1, h, rfl, g1, hh⟩ := z
    rcases e1 with ⟨t1, n1, M_codeTo⟩ | ⟨ci, fs⟩
    rotate_left
    · exact g1.elim
    obtain ⟨et, en, b_codeTo⟩ := g1
    cases (et : t1 = 0)
    cases en
    cases h with
    | cons _ _ => exact hh.elim
    | nil =>
    obtain ⟨t0, ht0, rfl⟩ := rng_n (x := M_waiting) (k := 260) b_waiting.1 b_waiting.2
    obtain ⟨s, hs, rfl⟩ := rng_n (x := M_taped) (k := 260) (by omega) b_taped.2
    have es := sz_n (c := s) (by omega)
    obtain ⟨rF, eF⟩ := rg_x rfl b_tape
    have k5 : n ≤ 240 := by omega
    refine (z_X12_law (b := ob (fun i => f_and (decA (τ 251) i) 255)) (n := n) (t0 := t0) (tn := s) h1.1 k5 (by omega) ht0 hs (fun i hi => ob_ok (f := fun i => f_and (decA (τ 251) i) 255) (F := fun i => f_and (M_tape i) 255) (by omega) (by show f_and (M_tape i) 255 = f_and (decA (τ 251) i) 255; rw [eF i (by omega)]) oct_rng)).mono (fun r h' hp => ?_)
    rcases hp with ⟨y, sd, wt, sl, sf, sh, st, c', t', p', m, v, o, f, rfl, kQ, k1, k2, k3, k4, rfl⟩ | ⟨y, sd, wt, sl, sf, sh, st, cd, co, cf, ch, ct, c', t', p', m, v, o, f, rfl, kQ, k1, k2, k3, k4, k6, rfl⟩
    · exact ⟨τ, y, hΦ, fun _ _ => rfl, rfl, kQ, ⟨⟨rfl, rfl, rfl, rfl, rfl, rfl, rfl, rfl, rfl, ⟨_, rfl, b_stampMany⟩, rfl, ⟨_, rfl, nr (m := 0) (k := 0) (by omega) (by omega)⟩, ⟨_, rfl, nr (m := 240) k3 (by omega)⟩, ⟨_, rfl, nr (m := 240) k5 (by omega)⟩, topA_ok _, topA_ok _, topA_ok _, ⟨_, rfl, nr (m := 260) k1 (by omega)⟩, ⟨_, rfl, nr (m := 260) k2 (by omega)⟩, ⟨_, rfl, nr (m := 16) k4 (by omega)⟩, gT_mk (t := 200) rfl rfl ⟨i32lo _, i32hi _⟩, rfl, rfl, rfl, rfl, rfl, rfl, rfl, rfl, rfl, rfl, rfl, rfl, rfl, rfl, rfl, rfl, rfl, ⟨_, rfl, b_newMany⟩, ⟨_, rfl, b_rounds⟩, ⟨_, rfl, b_stampFrom⟩, ⟨_, rfl, b_stampTimes⟩, ⟨_, rfl, b_lines⟩, ⟨_, rfl, b_spot0⟩, ⟨_, rfl, b_pullAcross⟩, ⟨_, rfl, b_pullAlong⟩, ⟨_, rfl, b_stepsNow⟩, ⟨_, rfl, b_fallenNow⟩, rfl, rfl, rfl, rfl, rfl, gT_mk rfl e_isKept b_isKept, trivial⟩, ⟨rfl, rfl, b_tape⟩, ⟨rfl, rfl, of_rg rg_top⟩, ⟨rfl, rfl, of_rg rg_top⟩, ⟨rfl, rfl, of_rg rg_top⟩, ⟨rfl, rfl, of_rg rg_top⟩, ⟨rfl, rfl, of_rg rg_top⟩, ⟨rfl, rfl, of_rg rg_top⟩, ⟨rfl, rfl, b_codes⟩, ⟨rfl, rfl, b_clauseOf⟩, ⟨rfl, rfl, b_codeFrom⟩, ⟨rfl, rfl, b_codeHalf⟩, ⟨rfl, rfl, b_codeTo⟩, trivial⟩⟩
    · refine ⟨tauL τ cd cf ch ct (nI m), y, tauL_Φ k6, fun t ht => tauL_lo (kT200 ht), rfl, kQ, ?_⟩
      have em : (nI m : Int32) = decA (tauL τ cd cf ch ct (nI m) 200) 0 := tauL_m.symm
      exact ⟨⟨rfl, rfl, rfl, rfl, rfl, rfl, rfl, rfl, rfl, ⟨_, rfl, b_stampMany⟩, rfl, ⟨_, rfl, nr (m := 0) (k := 0) (by omega) (by omega)⟩, ⟨_, rfl, nr (m := 240) k3 (by omega)⟩, ⟨_, rfl, nr (m := 240) k5 (by omega)⟩, topA_ok _, topA_ok _, topA_ok _, ⟨_, rfl, nr (m := 260) k1 (by omega)⟩, ⟨_, rfl, nr (m := 260) k2 (by omega)⟩, ⟨_, rfl, nr (m := 16) k4 (by omega)⟩, gT_mk (t := 200) rfl em ⟨i32lo _, i32hi _⟩, rfl, rfl, rfl, rfl, rfl, rfl, rfl, rfl, rfl, rfl, rfl, rfl, rfl, rfl, rfl, rfl, rfl, ⟨_, rfl, b_newMany⟩, ⟨_, rfl, b_rounds⟩, ⟨_, rfl, b_stampFrom⟩, ⟨_, rfl, b_stampTimes⟩, ⟨_, rfl, b_lines⟩, ⟨_, rfl, b_spot0⟩, ⟨_, rfl, b_pullAcross⟩, ⟨_, rfl, b_pullAlong⟩, ⟨_, rfl, b_stepsNow⟩, ⟨_, rfl, b_fallenNow⟩, rfl, rfl, rfl, rfl, rfl, gT_mk rfl e_isKept b_isKept, trivial⟩, ⟨rfl, rfl, b_tape⟩, ⟨rfl, rfl, of_rg rg_top⟩, ⟨rfl, rfl, of_rg rg_top⟩, ⟨rfl, rfl, of_rg rg_top⟩, ⟨rfl, rfl, of_rg rg_top⟩, ⟨rfl, rfl, of_rg rg_top⟩, ⟨rfl, rfl, of_rg rg_top⟩, ⟨rfl, rfl, of_ex (fun i hi => (encA_ok hi).symm)⟩, ⟨rfl, rfl, of_rg rg_top⟩, ⟨rfl, rfl, of_ex (fun i hi => (encA_ok hi).symm)⟩, ⟨rfl, rfl, of_ex (fun i hi => (encA_ok hi).symm)⟩, ⟨rfl, rfl, of_ex (fun i hi => (encA_ok hi).symm)⟩, trivial⟩
def HX_law100R : List AC := hc_f10b5e489c
def HY_law100R : List AC := hc_a074f70448
set_option maxRecDepth 100000 in
theorem x_law100R {l : Launch} {n : Nat} (h1 : 1 ≤ n ∧ n ≤ 100) : conOkX (MetP l 8 yX12_law cX12_law 4 (some .int) 0 0) [nI n] HX_law100R HY_law100R (fun t => Nat.ble t 200) (fun _ => True) (fun τ τ' y => lwY (ob (fun i => f_and (decA (τ 251) i) 255)) n y) := by
  intro τ hΦ hP h hh
  have z := all2_cons hh
  clear hh
  obtain ⟨e0, h, rfl, g0, hh⟩ := z
  rcases e0 with ⟨t0, n0, f0⟩ | ⟨ci, fs⟩
  · exact g0.elim
  obtain ⟨rfl, gf⟩ := g0
  have z := all2_cons gf
  clear gf
  obtain ⟨v0, fs, rfl, q0, gf⟩ := z
  cases gT_r (τ := τ) (t := 0) (v := v0) rfl q0
  have z := all2_cons gf
  clear gf
  obtain ⟨v0, fs, rfl, q0, gf⟩ := z
  cases gT_r (τ := τ) (t := 1) (v := v0) rfl q0
  have z := all2_cons gf
  clear gf
  obtain ⟨v0, fs, rfl, q0, gf⟩ := z
  cases gT_r (τ := τ) (t := 2) (v := v0) rfl q0
  have z := all2_cons gf
  clear gf
  obtain ⟨v0, fs, rfl, q0, gf⟩ := z
  cases gT_r (τ := τ) (t := 3) (v := v0) rfl q0
  have z := all2_cons gf
  clear gf
  obtain ⟨v0, fs, rfl, q0, gf⟩ := z
  cases gT_r (τ := τ) (t := 4) (v := v0) rfl q0
  have z := all2_cons gf
  clear gf
  obtain ⟨v0, fs, rfl, q0, gf⟩ := z
  cases gT_r (τ := τ) (t := 5) (v := v0) rfl q0
  have z := all2_cons gf
  clear gf
  obtain ⟨v0, fs, rfl, q0, gf⟩ := z
  cases gT_r (τ := τ) (t := 6) (v := v0) rfl q0
  have z := all2_cons gf
  clear gf
  obtain ⟨v0, fs, rfl, q0, gf⟩ := z
  cases gT_r (τ := τ) (t := 7) (v := v0) rfl q0
  have z := all2_cons gf
  clear gf
  obtain ⟨v0, fs, rfl, q0, gf⟩ := z
  obtain ⟨M_stampMany, rfl, b_stampMany⟩ := q0
  have z := all2_cons gf
  clear gf
  obtain ⟨v0, fs, rfl, q0, gf⟩ := z
  cases (q0 : v0 = .inr (some (.inl 1)))
  have z := all2_cons gf
  clear gf
  obtain ⟨v0, fs, rfl, q0, gf⟩ := z
  obtain ⟨M_taped, rfl, b_taped⟩ := q0
  have z := all2_cons gf
  clear gf
  obtain ⟨v0, fs, rfl, q0, gf⟩ := z
  obtain ⟨M_place0, rfl, b_place0⟩ := q0
  have z := all2_cons gf
  clear gf
  obtain ⟨v0, fs, rfl, q0, gf⟩ := z
  obtain ⟨M_length0, rfl, b_length0⟩ := q0
  have z := all2_cons gf
  clear gf
  obtain ⟨v0, fs, rfl, q0, gf⟩ := z
  obtain ⟨M_fault, rfl, b_fault⟩ := q0
  have z := all2_cons gf
  clear gf
  obtain ⟨v0, fs, rfl, q0, gf⟩ := z
  obtain ⟨M_number0, rfl, b_number0⟩ := q0
  have z := all2_cons gf
  clear gf
  obtain ⟨v0, fs, rfl, q0, gf⟩ := z
  obtain ⟨M_open, rfl, b_open⟩ := q0
  have z := all2_cons gf
  clear gf
  obtain ⟨v0, fs, rfl, q0, gf⟩ := z
  obtain ⟨M_codeMany, rfl, b_codeMany⟩ := q0
  have z := all2_cons gf
  clear gf
  obtain ⟨v0, fs, rfl, q0, gf⟩ := z
  obtain ⟨M_waiting, rfl, b_waiting⟩ := q0
  have z := all2_cons gf
  clear gf
  obtain ⟨v0, fs, rfl, q0, gf⟩ := z
  obtain ⟨M_saidMany, rfl, b_saidMany⟩ := q0
  have z := all2_cons gf
  clear gf
  obtain ⟨v0, fs, rfl, q0, gf⟩ := z
  cases gT_i (τ := τ) (t := 200) (v := v0) rfl q0
  have z := all2_cons gf
  clear gf
  obtain ⟨v0, fs, rfl, q0, gf⟩ := z
  cases (q0 : v0 = .inr (some (.inl 2)))
  have z := all2_cons gf
  clear gf
  obtain ⟨v0, fs, rfl, q0, gf⟩ := z
  cases (q0 : v0 = .inr (some (.inl 3)))
  have z := all2_cons gf
  clear gf
  obtain ⟨v0, fs, rfl, q0, gf⟩ := z
  cases (q0 : v0 = .inr (some (.inl 4)))
  have z := all2_cons gf
  clear gf
  obtain ⟨v0, fs, rfl, q0, gf⟩ := z
  cases (q0 : v0 = .inr (some (.inl 5)))
  have z := all2_cons gf
  clear gf
  obtain ⟨v0, fs, rfl, q0, gf⟩ := z
  cases (q0 : v0 = .inr (some (.inl 6)))
  have z := all2_cons gf
  clear gf
  obtain ⟨v0, fs, rfl, q0, gf⟩ := z
  cases (q0 : v0 = .inr (some (.inl 7)))
  have z := all2_cons gf
  clear gf
  obtain ⟨v0, fs, rfl, q0, gf⟩ := z
  cases (q0 : v0 = .inr (some (.inl 8)))
  have z := all2_cons gf
  clear gf
  obtain ⟨v0, fs, rfl, q0, gf⟩ := z
  cases (q0 : v0 = .inr (some (.inl 9)))
  have z := all2_cons gf
  clear gf
  obtain ⟨v0, fs, rfl, q0, gf⟩ := z
  cases (q0 : v0 = .inr (some (.inl 10)))
  have z := all2_cons gf
  clear gf
  obtain ⟨v0, fs, rfl, q0, gf⟩ := z
  cases (q0 : v0 = .inr (some (.inl 11)))
  have z := all2_cons gf
  clear gf
  obtain ⟨v0, fs, rfl, q0, gf⟩ := z
  cases (q0 : v0 = .inr (some (.inl 12)))
  have z := all2_cons gf
  clear gf
  obtain ⟨v0, fs, rfl, q0, gf⟩ := z
  cases gT_r (τ := τ) (t := 8) (v := v0) rfl q0
  have z := all2_cons gf
  clear gf
  obtain ⟨v0, fs, rfl, q0, gf⟩ := z
  cases gT_r (τ := τ) (t := 9) (v := v0) rfl q0
  have z := all2_cons gf
  clear gf
  obtain ⟨v0, fs, rfl, q0, gf⟩ := z
  cases gT_r (τ := τ) (t := 10) (v := v0) rfl q0
  have z := all2_cons gf
  clear gf
  obtain ⟨v0, fs, rfl, q0, gf⟩ := z
  cases gT_r (τ := τ) (t := 11) (v := v0) rfl q0
  have z := all2_cons gf
  clear gf
  obtain ⟨v0, fs, rfl, q0, gf⟩ := z
  cases gT_r (τ := τ) (t := 12) (v := v0) rfl q0
  have z := all2_cons gf
  clear gf
  obtain ⟨v0, fs, rfl, q0, gf⟩ := z
  cases gT_r (τ := τ) (t := 13) (v := v0) rfl q0
  have z := all2_cons gf
  clear gf
  obtain ⟨v0, fs, rfl, q0, gf⟩ := z
  obtain ⟨M_newMany, rfl, b_newMany⟩ := q0
  have z := all2_cons gf
  clear gf
  obtain ⟨v0, fs, rfl, q0, gf⟩ := z
  obtain ⟨M_rounds, rfl, b_rounds⟩ := q0
  have z := all2_cons gf
  clear gf
  obtain ⟨v0, fs, rfl, q0, gf⟩ := z
  obtain ⟨M_stampFrom, rfl, b_stampFrom⟩ := q0
  have z := all2_cons gf
  clear gf
  obtain ⟨v0, fs, rfl, q0, gf⟩ := z
  obtain ⟨M_stampTimes, rfl, b_stampTimes⟩ := q0
  have z := all2_cons gf
  clear gf
  obtain ⟨v0, fs, rfl, q0, gf⟩ := z
  obtain ⟨M_lines, rfl, b_lines⟩ := q0
  have z := all2_cons gf
  clear gf
  obtain ⟨v0, fs, rfl, q0, gf⟩ := z
  obtain ⟨M_spot0, rfl, b_spot0⟩ := q0
  have z := all2_cons gf
  clear gf
  obtain ⟨v0, fs, rfl, q0, gf⟩ := z
  obtain ⟨M_pullAcross, rfl, b_pullAcross⟩ := q0
  have z := all2_cons gf
  clear gf
  obtain ⟨v0, fs, rfl, q0, gf⟩ := z
  obtain ⟨M_pullAlong, rfl, b_pullAlong⟩ := q0
  have z := all2_cons gf
  clear gf
  obtain ⟨v0, fs, rfl, q0, gf⟩ := z
  obtain ⟨M_stepsNow, rfl, b_stepsNow⟩ := q0
  have z := all2_cons gf
  clear gf
  obtain ⟨v0, fs, rfl, q0, gf⟩ := z
  obtain ⟨M_fallenNow, rfl, b_fallenNow⟩ := q0
  have z := all2_cons gf
  clear gf
  obtain ⟨v0, fs, rfl, q0, gf⟩ := z
  cases gT_r (τ := τ) (t := 14) (v := v0) rfl q0
  have z := all2_cons gf
  clear gf
  obtain ⟨v0, fs, rfl, q0, gf⟩ := z
  cases gT_r (τ := τ) (t := 15) (v := v0) rfl q0
  have z := all2_cons gf
  clear gf
  obtain ⟨v0, fs, rfl, q0, gf⟩ := z
  cases gT_r (τ := τ) (t := 16) (v := v0) rfl q0
  have z := all2_cons gf
  clear gf
  obtain ⟨v0, fs, rfl, q0, gf⟩ := z
  cases gT_r (τ := τ) (t := 17) (v := v0) rfl q0
  have z := all2_cons gf
  clear gf
  obtain ⟨v0, fs, rfl, q0, gf⟩ := z
  cases gT_r (τ := τ) (t := 18) (v := v0) rfl q0
  have z := all2_cons gf
  clear gf
  obtain ⟨v0, fs, rfl, q0, gf⟩ := z
  obtain ⟨M_isKept, rfl, e_isKept, b_isKept⟩ := gT_x (τ := τ) (t := 201) (v := v0) rfl q0
  cases fs with
  | cons _ _ => exact gf.elim
  | nil =>
    have z := all2_cons hh
    clear hh
    obtain ⟨e1, h, rfl, g1, hh⟩ := z
    rcases e1 with ⟨t1, n1, M_tape⟩ | ⟨ci, fs⟩
    rotate_left
    · exact g1.elim
    obtain ⟨et, en, b_tape⟩ := g1
    cases (et : t1 = 1)
    cases en
    have z := all2_cons hh
    clear hh
    obtain ⟨e1, h, rfl, g1, hh⟩ := z
    rcases e1 with ⟨t1, n1, M_said⟩ | ⟨ci, fs⟩
    rotate_left
    · exact g1.elim
    obtain ⟨et, en, b_said⟩ := g1
    cases (et : t1 = 0)
    cases en
    have z := all2_cons hh
    clear hh
    obtain ⟨e1, h, rfl, g1, hh⟩ := z
    rcases e1 with ⟨t1, n1, M_waitsAt⟩ | ⟨ci, fs⟩
    rotate_left
    · exact g1.elim
    obtain ⟨et, en, b_waitsAt⟩ := g1
    cases (et : t1 = 0)
    cases en
    have z := all2_cons hh
    clear hh
    obtain ⟨e1, h, rfl, g1, hh⟩ := z
    rcases e1 with ⟨t1, n1, M_saidLetter⟩ | ⟨ci, fs⟩
    rotate_left
    · exact g1.elim
    obtain ⟨et, en, b_saidLetter⟩ := g1
    cases (et : t1 = 0)
    cases en
    have z := all2_cons hh
    clear hh
    obtain ⟨e1, h, rfl, g1, hh⟩ := z
    rcases e1 with ⟨t1, n1, M_saidFrom⟩ | ⟨ci, fs⟩
    rotate_left
    · exact g1.elim
    obtain ⟨et, en, b_saidFrom⟩ := g1
    cases (et : t1 = 0)
    cases en
    have z := all2_cons hh
    clear hh
    obtain ⟨e1, h, rfl, g1, hh⟩ := z
    rcases e1 with ⟨t1, n1, M_saidHalf⟩ | ⟨ci, fs⟩
    rotate_left
    · exact g1.elim
    obtain ⟨et, en, b_saidHalf⟩ := g1
    cases (et : t1 = 0)
    cases en
    have z := all2_cons hh
    clear hh
    obtain ⟨e1, h, rfl, g1, hh⟩ := z
    rcases e1 with ⟨t1, n1, M_saidTo⟩ | ⟨ci, fs⟩
    rotate_left
    · exact g1.elim
    obtain ⟨et, en, b_saidTo⟩ := g1
    cases (et : t1 = 0)
    cases en
    have z := all2_cons hh
    clear hh
    obtain ⟨e1, h, rfl, g1, hh⟩ := z
    rcases e1 with ⟨t1, n1, M_codes⟩ | ⟨ci, fs⟩
    rotate_left
    · exact g1.elim
    obtain ⟨et, en, b_codes⟩ := g1
    cases (et : t1 = 0)
    cases en
    have z := all2_cons hh
    clear hh
    obtain ⟨e1, h, rfl, g1, hh⟩ := z
    rcases e1 with ⟨t1, n1, M_clauseOf⟩ | ⟨ci, fs⟩
    rotate_left
    · exact g1.elim
    obtain ⟨et, en, b_clauseOf⟩ := g1
    cases (et : t1 = 0)
    cases en
    have z := all2_cons hh
    clear hh
    obtain ⟨e1, h, rfl, g1, hh⟩ := z
    rcases e1 with ⟨t1, n1, M_codeFrom⟩ | ⟨ci, fs⟩
    rotate_left
    · exact g1.elim
    obtain ⟨et, en, b_codeFrom⟩ := g1
    cases (et : t1 = 0)
    cases en
    have z := all2_cons hh
    clear hh
    obtain ⟨e1, h, rfl, g1, hh⟩ := z
    rcases e1 with ⟨t1, n1, M_codeHalf⟩ | ⟨ci, fs⟩
    rotate_left
    · exact g1.elim
    obtain ⟨et, en, b_codeHalf⟩ := g1
    cases (et : t1 = 0)
    cases en
    have z := all2_cons hh
    clear hh
    obtain ⟨e1, h, rfl, g1, hh⟩ := z
    rcases e1 with ⟨t1, n1, M_codeTo⟩ | ⟨ci, fs⟩
    rotate_left
    · exact g1.elim
    obtain ⟨et, en, b_codeTo⟩ := g1
    cases (et : t1 = 0)
    cases en
    cases h with
    | cons _ _ => exact hh.elim
    | nil =>
    obtain ⟨t0, ht0, rfl⟩ := rng_n (x := M_waiting) (k := 260) b_waiting.1 b_waiting.2
    obtain ⟨s, hs, rfl⟩ := rng_n (x := M_taped) (k := 260) (by omega) b_taped.2
    have es := sz_n (c := s) (by omega)
    obtain ⟨rF, eF⟩ := rg_x rfl b_tape
    have k5 : n ≤ 240 := by omega
    refine (z_X12_law (b := ob (fun i => f_and (decA (τ 251) i) 255)) (n := n) (t0 := t0) (tn := s) h1.1 k5 (by omega) ht0 hs (fun i hi => ob_ok (f := fun i => f_and (decA (τ 251) i) 255) (F := fun i => f_and (M_tape i) 255) (by omega) (by show f_and (M_tape i) 255 = f_and (decA (τ 251) i) 255; rw [eF i (by omega)]) oct_rng)).mono (fun r h' hp => ?_)
    rcases hp with ⟨y, sd, wt, sl, sf, sh, st, c', t', p', m, v, o, f, rfl, kQ, k1, k2, k3, k4, rfl⟩ | ⟨y, sd, wt, sl, sf, sh, st, cd, co, cf, ch, ct, c', t', p', m, v, o, f, rfl, kQ, k1, k2, k3, k4, k6, rfl⟩
    · exact ⟨τ, y, hΦ, fun _ _ => rfl, rfl, kQ, ⟨⟨rfl, rfl, rfl, rfl, rfl, rfl, rfl, rfl, rfl, ⟨_, rfl, b_stampMany⟩, rfl, ⟨_, rfl, nr (m := 0) (k := 0) (by omega) (by omega)⟩, ⟨_, rfl, nr (m := 240) k3 (by omega)⟩, ⟨_, rfl, nr (m := 240) k5 (by omega)⟩, topA_ok _, topA_ok _, topA_ok _, ⟨_, rfl, nr (m := 260) k1 (by omega)⟩, ⟨_, rfl, nr (m := 260) k2 (by omega)⟩, ⟨_, rfl, nr (m := 16) k4 (by omega)⟩, gT_mk (t := 200) rfl rfl ⟨i32lo _, i32hi _⟩, rfl, rfl, rfl, rfl, rfl, rfl, rfl, rfl, rfl, rfl, rfl, rfl, rfl, rfl, rfl, rfl, rfl, ⟨_, rfl, b_newMany⟩, ⟨_, rfl, b_rounds⟩, ⟨_, rfl, b_stampFrom⟩, ⟨_, rfl, b_stampTimes⟩, ⟨_, rfl, b_lines⟩, ⟨_, rfl, b_spot0⟩, ⟨_, rfl, b_pullAcross⟩, ⟨_, rfl, b_pullAlong⟩, ⟨_, rfl, b_stepsNow⟩, ⟨_, rfl, b_fallenNow⟩, rfl, rfl, rfl, rfl, rfl, gT_mk rfl e_isKept b_isKept, trivial⟩, ⟨rfl, rfl, b_tape⟩, ⟨rfl, rfl, of_rg rg_top⟩, ⟨rfl, rfl, of_rg rg_top⟩, ⟨rfl, rfl, of_rg rg_top⟩, ⟨rfl, rfl, of_rg rg_top⟩, ⟨rfl, rfl, of_rg rg_top⟩, ⟨rfl, rfl, of_rg rg_top⟩, ⟨rfl, rfl, b_codes⟩, ⟨rfl, rfl, b_clauseOf⟩, ⟨rfl, rfl, b_codeFrom⟩, ⟨rfl, rfl, b_codeHalf⟩, ⟨rfl, rfl, b_codeTo⟩, trivial⟩⟩
    · refine ⟨tauL τ cd cf ch ct (nI m), y, tauL_Φ k6, fun t ht => tauL_lo (kT200 ht), rfl, kQ, ?_⟩
      have em : (nI m : Int32) = decA (tauL τ cd cf ch ct (nI m) 200) 0 := tauL_m.symm
      exact ⟨⟨rfl, rfl, rfl, rfl, rfl, rfl, rfl, rfl, rfl, ⟨_, rfl, b_stampMany⟩, rfl, ⟨_, rfl, nr (m := 0) (k := 0) (by omega) (by omega)⟩, ⟨_, rfl, nr (m := 240) k3 (by omega)⟩, ⟨_, rfl, nr (m := 240) k5 (by omega)⟩, topA_ok _, topA_ok _, topA_ok _, ⟨_, rfl, nr (m := 260) k1 (by omega)⟩, ⟨_, rfl, nr (m := 260) k2 (by omega)⟩, ⟨_, rfl, nr (m := 16) k4 (by omega)⟩, gT_mk (t := 200) rfl em ⟨i32lo _, i32hi _⟩, rfl, rfl, rfl, rfl, rfl, rfl, rfl, rfl, rfl, rfl, rfl, rfl, rfl, rfl, rfl, rfl, rfl, ⟨_, rfl, b_newMany⟩, ⟨_, rfl, b_rounds⟩, ⟨_, rfl, b_stampFrom⟩, ⟨_, rfl, b_stampTimes⟩, ⟨_, rfl, b_lines⟩, ⟨_, rfl, b_spot0⟩, ⟨_, rfl, b_pullAcross⟩, ⟨_, rfl, b_pullAlong⟩, ⟨_, rfl, b_stepsNow⟩, ⟨_, rfl, b_fallenNow⟩, rfl, rfl, rfl, rfl, rfl, gT_mk rfl e_isKept b_isKept, trivial⟩, ⟨rfl, rfl, b_tape⟩, ⟨rfl, rfl, of_rg rg_top⟩, ⟨rfl, rfl, of_rg rg_top⟩, ⟨rfl, rfl, of_rg rg_top⟩, ⟨rfl, rfl, of_rg rg_top⟩, ⟨rfl, rfl, of_rg rg_top⟩, ⟨rfl, rfl, of_rg rg_top⟩, ⟨rfl, rfl, of_ex (fun i hi => (encA_ok hi).symm)⟩, ⟨rfl, rfl, of_rg rg_top⟩, ⟨rfl, rfl, of_ex (fun i hi => (encA_ok hi).symm)⟩, ⟨rfl, rfl, of_ex (fun i hi => (encA_ok hi).symm)⟩, ⟨rfl, rfl, of_ex (fun i hi => (encA_ok hi).symm)⟩, trivial⟩
def HX_law120R : List AC := hc_a8a8fccb02
def HY_law120R : List AC := hc_a074f70448
set_option maxRecDepth 100000 in
theorem x_law120R {l : Launch} {n : Nat} (h1 : 1 ≤ n ∧ n ≤ 120) : conOkX (MetP l 8 yX12_law cX12_law 4 (some .int) 0 0) [nI n] HX_law120R HY_law120R (fun t => Nat.ble t 200) (fun _ => True) (fun τ τ' y => lwY (ob (fun i => f_and (decA (τ 251) i) 255)) n y) := by
  intro τ hΦ hP h hh
  have z := all2_cons hh
  clear hh
  obtain ⟨e0, h, rfl, g0, hh⟩ := z
  rcases e0 with ⟨t0, n0, f0⟩ | ⟨ci, fs⟩
  · exact g0.elim
  obtain ⟨rfl, gf⟩ := g0
  have z := all2_cons gf
  clear gf
  obtain ⟨v0, fs, rfl, q0, gf⟩ := z
  cases gT_r (τ := τ) (t := 0) (v := v0) rfl q0
  have z := all2_cons gf
  clear gf
  obtain ⟨v0, fs, rfl, q0, gf⟩ := z
  cases gT_r (τ := τ) (t := 1) (v := v0) rfl q0
  have z := all2_cons gf
  clear gf
  obtain ⟨v0, fs, rfl, q0, gf⟩ := z
  cases gT_r (τ := τ) (t := 2) (v := v0) rfl q0
  have z := all2_cons gf
  clear gf
  obtain ⟨v0, fs, rfl, q0, gf⟩ := z
  cases gT_r (τ := τ) (t := 3) (v := v0) rfl q0
  have z := all2_cons gf
  clear gf
  obtain ⟨v0, fs, rfl, q0, gf⟩ := z
  cases gT_r (τ := τ) (t := 4) (v := v0) rfl q0
  have z := all2_cons gf
  clear gf
  obtain ⟨v0, fs, rfl, q0, gf⟩ := z
  cases gT_r (τ := τ) (t := 5) (v := v0) rfl q0
  have z := all2_cons gf
  clear gf
  obtain ⟨v0, fs, rfl, q0, gf⟩ := z
  cases gT_r (τ := τ) (t := 6) (v := v0) rfl q0
  have z := all2_cons gf
  clear gf
  obtain ⟨v0, fs, rfl, q0, gf⟩ := z
  cases gT_r (τ := τ) (t := 7) (v := v0) rfl q0
  have z := all2_cons gf
  clear gf
  obtain ⟨v0, fs, rfl, q0, gf⟩ := z
  obtain ⟨M_stampMany, rfl, b_stampMany⟩ := q0
  have z := all2_cons gf
  clear gf
  obtain ⟨v0, fs, rfl, q0, gf⟩ := z
  cases (q0 : v0 = .inr (some (.inl 1)))
  have z := all2_cons gf
  clear gf
  obtain ⟨v0, fs, rfl, q0, gf⟩ := z
  obtain ⟨M_taped, rfl, b_taped⟩ := q0
  have z := all2_cons gf
  clear gf
  obtain ⟨v0, fs, rfl, q0, gf⟩ := z
  obtain ⟨M_place0, rfl, b_place0⟩ := q0
  have z := all2_cons gf
  clear gf
  obtain ⟨v0, fs, rfl, q0, gf⟩ := z
  obtain ⟨M_length0, rfl, b_length0⟩ := q0
  have z := all2_cons gf
  clear gf
  obtain ⟨v0, fs, rfl, q0, gf⟩ := z
  obtain ⟨M_fault, rfl, b_fault⟩ := q0
  have z := all2_cons gf
  clear gf
  obtain ⟨v0, fs, rfl, q0, gf⟩ := z
  obtain ⟨M_number0, rfl, b_number0⟩ := q0
  have z := all2_cons gf
  clear gf
  obtain ⟨v0, fs, rfl, q0, gf⟩ := z
  obtain ⟨M_open, rfl, b_open⟩ := q0
  have z := all2_cons gf
  clear gf
  obtain ⟨v0, fs, rfl, q0, gf⟩ := z
  obtain ⟨M_codeMany, rfl, b_codeMany⟩ := q0
  have z := all2_cons gf
  clear gf
  obtain ⟨v0, fs, rfl, q0, gf⟩ := z
  obtain ⟨M_waiting, rfl, b_waiting⟩ := q0
  have z := all2_cons gf
  clear gf
  obtain ⟨v0, fs, rfl, q0, gf⟩ := z
  obtain ⟨M_saidMany, rfl, b_saidMany⟩ := q0
  have z := all2_cons gf
  clear gf
  obtain ⟨v0, fs, rfl, q0, gf⟩ := z
  cases gT_i (τ := τ) (t := 200) (v := v0) rfl q0
  have z := all2_cons gf
  clear gf
  obtain ⟨v0, fs, rfl, q0, gf⟩ := z
  cases (q0 : v0 = .inr (some (.inl 2)))
  have z := all2_cons gf
  clear gf
  obtain ⟨v0, fs, rfl, q0, gf⟩ := z
  cases (q0 : v0 = .inr (some (.inl 3)))
  have z := all2_cons gf
  clear gf
  obtain ⟨v0, fs, rfl, q0, gf⟩ := z
  cases (q0 : v0 = .inr (some (.inl 4)))
  have z := all2_cons gf
  clear gf
  obtain ⟨v0, fs, rfl, q0, gf⟩ := z
  cases (q0 : v0 = .inr (some (.inl 5)))
  have z := all2_cons gf
  clear gf
  obtain ⟨v0, fs, rfl, q0, gf⟩ := z
  cases (q0 : v0 = .inr (some (.inl 6)))
  have z := all2_cons gf
  clear gf
  obtain ⟨v0, fs, rfl, q0, gf⟩ := z
  cases (q0 : v0 = .inr (some (.inl 7)))
  have z := all2_cons gf
  clear gf
  obtain ⟨v0, fs, rfl, q0, gf⟩ := z
  cases (q0 : v0 = .inr (some (.inl 8)))
  have z := all2_cons gf
  clear gf
  obtain ⟨v0, fs, rfl, q0, gf⟩ := z
  cases (q0 : v0 = .inr (some (.inl 9)))
  have z := all2_cons gf
  clear gf
  obtain ⟨v0, fs, rfl, q0, gf⟩ := z
  cases (q0 : v0 = .inr (some (.inl 10)))
  have z := all2_cons gf
  clear gf
  obtain ⟨v0, fs, rfl, q0, gf⟩ := z
  cases (q0 : v0 = .inr (some (.inl 11)))
  have z := all2_cons gf
  clear gf
  obtain ⟨v0, fs, rfl, q0, gf⟩ := z
  cases (q0 : v0 = .inr (some (.inl 12)))
  have z := all2_cons gf
  clear gf
  obtain ⟨v0, fs, rfl, q0, gf⟩ := z
  cases gT_r (τ := τ) (t := 8) (v := v0) rfl q0
  have z := all2_cons gf
  clear gf
  obtain ⟨v0, fs, rfl, q0, gf⟩ := z
  cases gT_r (τ := τ) (t := 9) (v := v0) rfl q0
  have z := all2_cons gf
  clear gf
  obtain ⟨v0, fs, rfl, q0, gf⟩ := z
  cases gT_r (τ := τ) (t := 10) (v := v0) rfl q0
  have z := all2_cons gf
  clear gf
  obtain ⟨v0, fs, rfl, q0, gf⟩ := z
  cases gT_r (τ := τ) (t := 11) (v := v0) rfl q0
  have z := all2_cons gf
  clear gf
  obtain ⟨v0, fs, rfl, q0, gf⟩ := z
  cases gT_r (τ := τ) (t := 12) (v := v0) rfl q0
  have z := all2_cons gf
  clear gf
  obtain ⟨v0, fs, rfl, q0, gf⟩ := z
  cases gT_r (τ := τ) (t := 13) (v := v0) rfl q0
  have z := all2_cons gf
  clear gf
  obtain ⟨v0, fs, rfl, q0, gf⟩ := z
  obtain ⟨M_newMany, rfl, b_newMany⟩ := q0
  have z := all2_cons gf
  clear gf
  obtain ⟨v0, fs, rfl, q0, gf⟩ := z
  obtain ⟨M_rounds, rfl, b_rounds⟩ := q0
  have z := all2_cons gf
  clear gf
  obtain ⟨v0, fs, rfl, q0, gf⟩ := z
  obtain ⟨M_stampFrom, rfl, b_stampFrom⟩ := q0
  have z := all2_cons gf
  clear gf
  obtain ⟨v0, fs, rfl, q0, gf⟩ := z
  obtain ⟨M_stampTimes, rfl, b_stampTimes⟩ := q0
  have z := all2_cons gf
  clear gf
  obtain ⟨v0, fs, rfl, q0, gf⟩ := z
  obtain ⟨M_lines, rfl, b_lines⟩ := q0
  have z := all2_cons gf
  clear gf
  obtain ⟨v0, fs, rfl, q0, gf⟩ := z
  obtain ⟨M_spot0, rfl, b_spot0⟩ := q0
  have z := all2_cons gf
  clear gf
  obtain ⟨v0, fs, rfl, q0, gf⟩ := z
  obtain ⟨M_pullAcross, rfl, b_pullAcross⟩ := q0
  have z := all2_cons gf
  clear gf
  obtain ⟨v0, fs, rfl, q0, gf⟩ := z
  obtain ⟨M_pullAlong, rfl, b_pullAlong⟩ := q0
  have z := all2_cons gf
  clear gf
  obtain ⟨v0, fs, rfl, q0, gf⟩ := z
  obtain ⟨M_stepsNow, rfl, b_stepsNow⟩ := q0
  have z := all2_cons gf
  clear gf
  obtain ⟨v0, fs, rfl, q0, gf⟩ := z
  obtain ⟨M_fallenNow, rfl, b_fallenNow⟩ := q0
  have z := all2_cons gf
  clear gf
  obtain ⟨v0, fs, rfl, q0, gf⟩ := z
  cases gT_r (τ := τ) (t := 14) (v := v0) rfl q0
  have z := all2_cons gf
  clear gf
  obtain ⟨v0, fs, rfl, q0, gf⟩ := z
  cases gT_r (τ := τ) (t := 15) (v := v0) rfl q0
  have z := all2_cons gf
  clear gf
  obtain ⟨v0, fs, rfl, q0, gf⟩ := z
  cases gT_r (τ := τ) (t := 16) (v := v0) rfl q0
  have z := all2_cons gf
  clear gf
  obtain ⟨v0, fs, rfl, q0, gf⟩ := z
  cases gT_r (τ := τ) (t := 17) (v := v0) rfl q0
  have z := all2_cons gf
  clear gf
  obtain ⟨v0, fs, rfl, q0, gf⟩ := z
  cases gT_r (τ := τ) (t := 18) (v := v0) rfl q0
  have z := all2_cons gf
  clear gf
  obtain ⟨v0, fs, rfl, q0, gf⟩ := z
  obtain ⟨M_isKept, rfl, e_isKept, b_isKept⟩ := gT_x (τ := τ) (t := 201) (v := v0) rfl q0
  cases fs with
  | cons _ _ => exact gf.elim
  | nil =>
    have z := all2_cons hh
    clear hh
    obtain ⟨e1, h, rfl, g1, hh⟩ := z
    rcases e1 with ⟨t1, n1, M_tape⟩ | ⟨ci, fs⟩
    rotate_left
    · exact g1.elim
    obtain ⟨et, en, b_tape⟩ := g1
    cases (et : t1 = 1)
    cases en
    have z := all2_cons hh
    clear hh
    obtain ⟨e1, h, rfl, g1, hh⟩ := z
    rcases e1 with ⟨t1, n1, M_said⟩ | ⟨ci, fs⟩
    rotate_left
    · exact g1.elim
    obtain ⟨et, en, b_said⟩ := g1
    cases (et : t1 = 0)
    cases en
    have z := all2_cons hh
    clear hh
    obtain ⟨e1, h, rfl, g1, hh⟩ := z
    rcases e1 with ⟨t1, n1, M_waitsAt⟩ | ⟨ci, fs⟩
    rotate_left
    · exact g1.elim
    obtain ⟨et, en, b_waitsAt⟩ := g1
    cases (et : t1 = 0)
    cases en
    have z := all2_cons hh
    clear hh
    obtain ⟨e1, h, rfl, g1, hh⟩ := z
    rcases e1 with ⟨t1, n1, M_saidLetter⟩ | ⟨ci, fs⟩
    rotate_left
    · exact g1.elim
    obtain ⟨et, en, b_saidLetter⟩ := g1
    cases (et : t1 = 0)
    cases en
    have z := all2_cons hh
    clear hh
    obtain ⟨e1, h, rfl, g1, hh⟩ := z
    rcases e1 with ⟨t1, n1, M_saidFrom⟩ | ⟨ci, fs⟩
    rotate_left
    · exact g1.elim
    obtain ⟨et, en, b_saidFrom⟩ := g1
    cases (et : t1 = 0)
    cases en
    have z := all2_cons hh
    clear hh
    obtain ⟨e1, h, rfl, g1, hh⟩ := z
    rcases e1 with ⟨t1, n1, M_saidHalf⟩ | ⟨ci, fs⟩
    rotate_left
    · exact g1.elim
    obtain ⟨et, en, b_saidHalf⟩ := g1
    cases (et : t1 = 0)
    cases en
    have z := all2_cons hh
    clear hh
    obtain ⟨e1, h, rfl, g1, hh⟩ := z
    rcases e1 with ⟨t1, n1, M_saidTo⟩ | ⟨ci, fs⟩
    rotate_left
    · exact g1.elim
    obtain ⟨et, en, b_saidTo⟩ := g1
    cases (et : t1 = 0)
    cases en
    have z := all2_cons hh
    clear hh
    obtain ⟨e1, h, rfl, g1, hh⟩ := z
    rcases e1 with ⟨t1, n1, M_codes⟩ | ⟨ci, fs⟩
    rotate_left
    · exact g1.elim
    obtain ⟨et, en, b_codes⟩ := g1
    cases (et : t1 = 0)
    cases en
    have z := all2_cons hh
    clear hh
    obtain ⟨e1, h, rfl, g1, hh⟩ := z
    rcases e1 with ⟨t1, n1, M_clauseOf⟩ | ⟨ci, fs⟩
    rotate_left
    · exact g1.elim
    obtain ⟨et, en, b_clauseOf⟩ := g1
    cases (et : t1 = 0)
    cases en
    have z := all2_cons hh
    clear hh
    obtain ⟨e1, h, rfl, g1, hh⟩ := z
    rcases e1 with ⟨t1, n1, M_codeFrom⟩ | ⟨ci, fs⟩
    rotate_left
    · exact g1.elim
    obtain ⟨et, en, b_codeFrom⟩ := g1
    cases (et : t1 = 0)
    cases en
    have z := all2_cons hh
    clear hh
    obtain ⟨e1, h, rfl, g1, hh⟩ := z
    rcases e1 with ⟨t1, n1, M_codeHalf⟩ | ⟨ci, fs⟩
    rotate_left
    · exact g1.elim
    obtain ⟨et, en, b_codeHalf⟩ := g1
    cases (et : t1 = 0)
    cases en
    have z := all2_cons hh
    clear hh
    obtain ⟨e1, h, rfl, g1, hh⟩ := z
    rcases e1 with ⟨t1, n1, M_codeTo⟩ | ⟨ci, fs⟩
    rotate_left
    · exact g1.elim
    obtain ⟨et, en, b_codeTo⟩ := g1
    cases (et : t1 = 0)
    cases en
    cases h with
    | cons _ _ => exact hh.elim
    | nil =>
    obtain ⟨t0, ht0, rfl⟩ := rng_n (x := M_waiting) (k := 260) b_waiting.1 b_waiting.2
    obtain ⟨s, hs, rfl⟩ := rng_n (x := M_taped) (k := 260) (by omega) b_taped.2
    have es := sz_n (c := s) (by omega)
    obtain ⟨rF, eF⟩ := rg_x rfl b_tape
    have k5 : n ≤ 240 := by omega
    refine (z_X12_law (b := ob (fun i => f_and (decA (τ 251) i) 255)) (n := n) (t0 := t0) (tn := s) h1.1 k5 (by omega) ht0 hs (fun i hi => ob_ok (f := fun i => f_and (decA (τ 251) i) 255) (F := fun i => f_and (M_tape i) 255) (by omega) (by show f_and (M_tape i) 255 = f_and (decA (τ 251) i) 255; rw [eF i (by omega)]) oct_rng)).mono (fun r h' hp => ?_)
    rcases hp with ⟨y, sd, wt, sl, sf, sh, st, c', t', p', m, v, o, f, rfl, kQ, k1, k2, k3, k4, rfl⟩ | ⟨y, sd, wt, sl, sf, sh, st, cd, co, cf, ch, ct, c', t', p', m, v, o, f, rfl, kQ, k1, k2, k3, k4, k6, rfl⟩
    · exact ⟨τ, y, hΦ, fun _ _ => rfl, rfl, kQ, ⟨⟨rfl, rfl, rfl, rfl, rfl, rfl, rfl, rfl, rfl, ⟨_, rfl, b_stampMany⟩, rfl, ⟨_, rfl, nr (m := 0) (k := 0) (by omega) (by omega)⟩, ⟨_, rfl, nr (m := 240) k3 (by omega)⟩, ⟨_, rfl, nr (m := 240) k5 (by omega)⟩, topA_ok _, topA_ok _, topA_ok _, ⟨_, rfl, nr (m := 260) k1 (by omega)⟩, ⟨_, rfl, nr (m := 260) k2 (by omega)⟩, ⟨_, rfl, nr (m := 16) k4 (by omega)⟩, gT_mk (t := 200) rfl rfl ⟨i32lo _, i32hi _⟩, rfl, rfl, rfl, rfl, rfl, rfl, rfl, rfl, rfl, rfl, rfl, rfl, rfl, rfl, rfl, rfl, rfl, ⟨_, rfl, b_newMany⟩, ⟨_, rfl, b_rounds⟩, ⟨_, rfl, b_stampFrom⟩, ⟨_, rfl, b_stampTimes⟩, ⟨_, rfl, b_lines⟩, ⟨_, rfl, b_spot0⟩, ⟨_, rfl, b_pullAcross⟩, ⟨_, rfl, b_pullAlong⟩, ⟨_, rfl, b_stepsNow⟩, ⟨_, rfl, b_fallenNow⟩, rfl, rfl, rfl, rfl, rfl, gT_mk rfl e_isKept b_isKept, trivial⟩, ⟨rfl, rfl, b_tape⟩, ⟨rfl, rfl, of_rg rg_top⟩, ⟨rfl, rfl, of_rg rg_top⟩, ⟨rfl, rfl, of_rg rg_top⟩, ⟨rfl, rfl, of_rg rg_top⟩, ⟨rfl, rfl, of_rg rg_top⟩, ⟨rfl, rfl, of_rg rg_top⟩, ⟨rfl, rfl, b_codes⟩, ⟨rfl, rfl, b_clauseOf⟩, ⟨rfl, rfl, b_codeFrom⟩, ⟨rfl, rfl, b_codeHalf⟩, ⟨rfl, rfl, b_codeTo⟩, trivial⟩⟩
    · refine ⟨tauL τ cd cf ch ct (nI m), y, tauL_Φ k6, fun t ht => tauL_lo (kT200 ht), rfl, kQ, ?_⟩
      have em : (nI m : Int32) = decA (tauL τ cd cf ch ct (nI m) 200) 0 := tauL_m.symm
      exact ⟨⟨rfl, rfl, rfl, rfl, rfl, rfl, rfl, rfl, rfl, ⟨_, rfl, b_stampMany⟩, rfl, ⟨_, rfl, nr (m := 0) (k := 0) (by omega) (by omega)⟩, ⟨_, rfl, nr (m := 240) k3 (by omega)⟩, ⟨_, rfl, nr (m := 240) k5 (by omega)⟩, topA_ok _, topA_ok _, topA_ok _, ⟨_, rfl, nr (m := 260) k1 (by omega)⟩, ⟨_, rfl, nr (m := 260) k2 (by omega)⟩, ⟨_, rfl, nr (m := 16) k4 (by omega)⟩, gT_mk (t := 200) rfl em ⟨i32lo _, i32hi _⟩, rfl, rfl, rfl, rfl, rfl, rfl, rfl, rfl, rfl, rfl, rfl, rfl, rfl, rfl, rfl, rfl, rfl, ⟨_, rfl, b_newMany⟩, ⟨_, rfl, b_rounds⟩, ⟨_, rfl, b_stampFrom⟩, ⟨_, rfl, b_stampTimes⟩, ⟨_, rfl, b_lines⟩, ⟨_, rfl, b_spot0⟩, ⟨_, rfl, b_pullAcross⟩, ⟨_, rfl, b_pullAlong⟩, ⟨_, rfl, b_stepsNow⟩, ⟨_, rfl, b_fallenNow⟩, rfl, rfl, rfl, rfl, rfl, gT_mk rfl e_isKept b_isKept, trivial⟩, ⟨rfl, rfl, b_tape⟩, ⟨rfl, rfl, of_rg rg_top⟩, ⟨rfl, rfl, of_rg rg_top⟩, ⟨rfl, rfl, of_rg rg_top⟩, ⟨rfl, rfl, of_rg rg_top⟩, ⟨rfl, rfl, of_rg rg_top⟩, ⟨rfl, rfl, of_rg rg_top⟩, ⟨rfl, rfl, of_ex (fun i hi => (encA_ok hi).symm)⟩, ⟨rfl, rfl, of_rg rg_top⟩, ⟨rfl, rfl, of_ex (fun i hi => (encA_ok hi).symm)⟩, ⟨rfl, rfl, of_ex (fun i hi => (encA_ok hi).symm)⟩, ⟨rfl, rfl, of_ex (fun i hi => (encA_ok hi).symm)⟩, trivial⟩
def HX_law140R : List AC := hc_114b569045
def HY_law140R : List AC := hc_a074f70448
set_option maxRecDepth 100000 in
theorem x_law140R {l : Launch} {n : Nat} (h1 : 1 ≤ n ∧ n ≤ 140) : conOkX (MetP l 8 yX12_law cX12_law 4 (some .int) 0 0) [nI n] HX_law140R HY_law140R (fun t => Nat.ble t 200) (fun _ => True) (fun τ τ' y => lwY (ob (fun i => f_and (decA (τ 251) i) 255)) n y) := by
  intro τ hΦ hP h hh
  have z := all2_cons hh
  clear hh
  obtain ⟨e0, h, rfl, g0, hh⟩ := z
  rcases e0 with ⟨t0, n0, f0⟩ | ⟨ci, fs⟩
  · exact g0.elim
  obtain ⟨rfl, gf⟩ := g0
  have z := all2_cons gf
  clear gf
  obtain ⟨v0, fs, rfl, q0, gf⟩ := z
  cases gT_r (τ := τ) (t := 0) (v := v0) rfl q0
  have z := all2_cons gf
  clear gf
  obtain ⟨v0, fs, rfl, q0, gf⟩ := z
  cases gT_r (τ := τ) (t := 1) (v := v0) rfl q0
  have z := all2_cons gf
  clear gf
  obtain ⟨v0, fs, rfl, q0, gf⟩ := z
  cases gT_r (τ := τ) (t := 2) (v := v0) rfl q0
  have z := all2_cons gf
  clear gf
  obtain ⟨v0, fs, rfl, q0, gf⟩ := z
  cases gT_r (τ := τ) (t := 3) (v := v0) rfl q0
  have z := all2_cons gf
  clear gf
  obtain ⟨v0, fs, rfl, q0, gf⟩ := z
  cases gT_r (τ := τ) (t := 4) (v := v0) rfl q0
  have z := all2_cons gf
  clear gf
  obtain ⟨v0, fs, rfl, q0, gf⟩ := z
  cases gT_r (τ := τ) (t := 5) (v := v0) rfl q0
  have z := all2_cons gf
  clear gf
  obtain ⟨v0, fs, rfl, q0, gf⟩ := z
  cases gT_r (τ := τ) (t := 6) (v := v0) rfl q0
  have z := all2_cons gf
  clear gf
  obtain ⟨v0, fs, rfl, q0, gf⟩ := z
  cases gT_r (τ := τ) (t := 7) (v := v0) rfl q0
  have z := all2_cons gf
  clear gf
  obtain ⟨v0, fs, rfl, q0, gf⟩ := z
  obtain ⟨M_stampMany, rfl, b_stampMany⟩ := q0
  have z := all2_cons gf
  clear gf
  obtain ⟨v0, fs, rfl, q0, gf⟩ := z
  cases (q0 : v0 = .inr (some (.inl 1)))
  have z := all2_cons gf
  clear gf
  obtain ⟨v0, fs, rfl, q0, gf⟩ := z
  obtain ⟨M_taped, rfl, b_taped⟩ := q0
  have z := all2_cons gf
  clear gf
  obtain ⟨v0, fs, rfl, q0, gf⟩ := z
  obtain ⟨M_place0, rfl, b_place0⟩ := q0
  have z := all2_cons gf
  clear gf
  obtain ⟨v0, fs, rfl, q0, gf⟩ := z
  obtain ⟨M_length0, rfl, b_length0⟩ := q0
  have z := all2_cons gf
  clear gf
  obtain ⟨v0, fs, rfl, q0, gf⟩ := z
  obtain ⟨M_fault, rfl, b_fault⟩ := q0
  have z := all2_cons gf
  clear gf
  obtain ⟨v0, fs, rfl, q0, gf⟩ := z
  obtain ⟨M_number0, rfl, b_number0⟩ := q0
  have z := all2_cons gf
  clear gf
  obtain ⟨v0, fs, rfl, q0, gf⟩ := z
  obtain ⟨M_open, rfl, b_open⟩ := q0
  have z := all2_cons gf
  clear gf
  obtain ⟨v0, fs, rfl, q0, gf⟩ := z
  obtain ⟨M_codeMany, rfl, b_codeMany⟩ := q0
  have z := all2_cons gf
  clear gf
  obtain ⟨v0, fs, rfl, q0, gf⟩ := z
  obtain ⟨M_waiting, rfl, b_waiting⟩ := q0
  have z := all2_cons gf
  clear gf
  obtain ⟨v0, fs, rfl, q0, gf⟩ := z
  obtain ⟨M_saidMany, rfl, b_saidMany⟩ := q0
  have z := all2_cons gf
  clear gf
  obtain ⟨v0, fs, rfl, q0, gf⟩ := z
  cases gT_i (τ := τ) (t := 200) (v := v0) rfl q0
  have z := all2_cons gf
  clear gf
  obtain ⟨v0, fs, rfl, q0, gf⟩ := z
  cases (q0 : v0 = .inr (some (.inl 2)))
  have z := all2_cons gf
  clear gf
  obtain ⟨v0, fs, rfl, q0, gf⟩ := z
  cases (q0 : v0 = .inr (some (.inl 3)))
  have z := all2_cons gf
  clear gf
  obtain ⟨v0, fs, rfl, q0, gf⟩ := z
  cases (q0 : v0 = .inr (some (.inl 4)))
  have z := all2_cons gf
  clear gf
  obtain ⟨v0, fs, rfl, q0, gf⟩ := z
  cases (q0 : v0 = .inr (some (.inl 5)))
  have z := all2_cons gf
  clear gf
  obtain ⟨v0, fs, rfl, q0, gf⟩ := z
  cases (q0 : v0 = .inr (some (.inl 6)))
  have z := all2_cons gf
  clear gf
  obtain ⟨v0, fs, rfl, q0, gf⟩ := z
  cases (q0 : v0 = .inr (some (.inl 7)))
  have z := all2_cons gf
  clear gf
  obtain ⟨v0, fs, rfl, q0, gf⟩ := z
  cases (q0 : v0 = .inr (some (.inl 8)))
  have z := all2_cons gf
  clear gf
  obtain ⟨v0, fs, rfl, q0, gf⟩ := z
  cases (q0 : v0 = .inr (some (.inl 9)))
  have z := all2_cons gf
  clear gf
  obtain ⟨v0, fs, rfl, q0, gf⟩ := z
  cases (q0 : v0 = .inr (some (.inl 10)))
  have z := all2_cons gf
  clear gf
  obtain ⟨v0, fs, rfl, q0, gf⟩ := z
  cases (q0 : v0 = .inr (some (.inl 11)))
  have z := all2_cons gf
  clear gf
  obtain ⟨v0, fs, rfl, q0, gf⟩ := z
  cases (q0 : v0 = .inr (some (.inl 12)))
  have z := all2_cons gf
  clear gf
  obtain ⟨v0, fs, rfl, q0, gf⟩ := z
  cases gT_r (τ := τ) (t := 8) (v := v0) rfl q0
  have z := all2_cons gf
  clear gf
  obtain ⟨v0, fs, rfl, q0, gf⟩ := z
  cases gT_r (τ := τ) (t := 9) (v := v0) rfl q0
  have z := all2_cons gf
  clear gf
  obtain ⟨v0, fs, rfl, q0, gf⟩ := z
  cases gT_r (τ := τ) (t := 10) (v := v0) rfl q0
  have z := all2_cons gf
  clear gf
  obtain ⟨v0, fs, rfl, q0, gf⟩ := z
  cases gT_r (τ := τ) (t := 11) (v := v0) rfl q0
  have z := all2_cons gf
  clear gf
  obtain ⟨v0, fs, rfl, q0, gf⟩ := z
  cases gT_r (τ := τ) (t := 12) (v := v0) rfl q0
  have z := all2_cons gf
  clear gf
  obtain ⟨v0, fs, rfl, q0, gf⟩ := z
  cases gT_r (τ := τ) (t := 13) (v := v0) rfl q0
  have z := all2_cons gf
  clear gf
  obtain ⟨v0, fs, rfl, q0, gf⟩ := z
  obtain ⟨M_newMany, rfl, b_newMany⟩ := q0
  have z := all2_cons gf
  clear gf
  obtain ⟨v0, fs, rfl, q0, gf⟩ := z
  obtain ⟨M_rounds, rfl, b_rounds⟩ := q0
  have z := all2_cons gf
  clear gf
  obtain ⟨v0, fs, rfl, q0, gf⟩ := z
  obtain ⟨M_stampFrom, rfl, b_stampFrom⟩ := q0
  have z := all2_cons gf
  clear gf
  obtain ⟨v0, fs, rfl, q0, gf⟩ := z
  obtain ⟨M_stampTimes, rfl, b_stampTimes⟩ := q0
  have z := all2_cons gf
  clear gf
  obtain ⟨v0, fs, rfl, q0, gf⟩ := z
  obtain ⟨M_lines, rfl, b_lines⟩ := q0
  have z := all2_cons gf
  clear gf
  obtain ⟨v0, fs, rfl, q0, gf⟩ := z
  obtain ⟨M_spot0, rfl, b_spot0⟩ := q0
  have z := all2_cons gf
  clear gf
  obtain ⟨v0, fs, rfl, q0, gf⟩ := z
  obtain ⟨M_pullAcross, rfl, b_pullAcross⟩ := q0
  have z := all2_cons gf
  clear gf
  obtain ⟨v0, fs, rfl, q0, gf⟩ := z
  obtain ⟨M_pullAlong, rfl, b_pullAlong⟩ := q0
  have z := all2_cons gf
  clear gf
  obtain ⟨v0, fs, rfl, q0, gf⟩ := z
  obtain ⟨M_stepsNow, rfl, b_stepsNow⟩ := q0
  have z := all2_cons gf
  clear gf
  obtain ⟨v0, fs, rfl, q0, gf⟩ := z
  obtain ⟨M_fallenNow, rfl, b_fallenNow⟩ := q0
  have z := all2_cons gf
  clear gf
  obtain ⟨v0, fs, rfl, q0, gf⟩ := z
  cases gT_r (τ := τ) (t := 14) (v := v0) rfl q0
  have z := all2_cons gf
  clear gf
  obtain ⟨v0, fs, rfl, q0, gf⟩ := z
  cases gT_r (τ := τ) (t := 15) (v := v0) rfl q0
  have z := all2_cons gf
  clear gf
  obtain ⟨v0, fs, rfl, q0, gf⟩ := z
  cases gT_r (τ := τ) (t := 16) (v := v0) rfl q0
  have z := all2_cons gf
  clear gf
  obtain ⟨v0, fs, rfl, q0, gf⟩ := z
  cases gT_r (τ := τ) (t := 17) (v := v0) rfl q0
  have z := all2_cons gf
  clear gf
  obtain ⟨v0, fs, rfl, q0, gf⟩ := z
  cases gT_r (τ := τ) (t := 18) (v := v0) rfl q0
  have z := all2_cons gf
  clear gf
  obtain ⟨v0, fs, rfl, q0, gf⟩ := z
  obtain ⟨M_isKept, rfl, e_isKept, b_isKept⟩ := gT_x (τ := τ) (t := 201) (v := v0) rfl q0
  cases fs with
  | cons _ _ => exact gf.elim
  | nil =>
    have z := all2_cons hh
    clear hh
    obtain ⟨e1, h, rfl, g1, hh⟩ := z
    rcases e1 with ⟨t1, n1, M_tape⟩ | ⟨ci, fs⟩
    rotate_left
    · exact g1.elim
    obtain ⟨et, en, b_tape⟩ := g1
    cases (et : t1 = 1)
    cases en
    have z := all2_cons hh
    clear hh
    obtain ⟨e1, h, rfl, g1, hh⟩ := z
    rcases e1 with ⟨t1, n1, M_said⟩ | ⟨ci, fs⟩
    rotate_left
    · exact g1.elim
    obtain ⟨et, en, b_said⟩ := g1
    cases (et : t1 = 0)
    cases en
    have z := all2_cons hh
    clear hh
    obtain ⟨e1, h, rfl, g1, hh⟩ := z
    rcases e1 with ⟨t1, n1, M_waitsAt⟩ | ⟨ci, fs⟩
    rotate_left
    · exact g1.elim
    obtain ⟨et, en, b_waitsAt⟩ := g1
    cases (et : t1 = 0)
    cases en
    have z := all2_cons hh
    clear hh
    obtain ⟨e1, h, rfl, g1, hh⟩ := z
    rcases e1 with ⟨t1, n1, M_saidLetter⟩ | ⟨ci, fs⟩
    rotate_left
    · exact g1.elim
    obtain ⟨et, en, b_saidLetter⟩ := g1
    cases (et : t1 = 0)
    cases en
    have z := all2_cons hh
    clear hh
    obtain ⟨e1, h, rfl, g1, hh⟩ := z
    rcases e1 with ⟨t1, n1, M_saidFrom⟩ | ⟨ci, fs⟩
    rotate_left
    · exact g1.elim
    obtain ⟨et, en, b_saidFrom⟩ := g1
    cases (et : t1 = 0)
    cases en
    have z := all2_cons hh
    clear hh
    obtain ⟨e1, h, rfl, g1, hh⟩ := z
    rcases e1 with ⟨t1, n1, M_saidHalf⟩ | ⟨ci, fs⟩
    rotate_left
    · exact g1.elim
    obtain ⟨et, en, b_saidHalf⟩ := g1
    cases (et : t1 = 0)
    cases en
    have z := all2_cons hh
    clear hh
    obtain ⟨e1, h, rfl, g1, hh⟩ := z
    rcases e1 with ⟨t1, n1, M_saidTo⟩ | ⟨ci, fs⟩
    rotate_left
    · exact g1.elim
    obtain ⟨et, en, b_saidTo⟩ := g1
    cases (et : t1 = 0)
    cases en
    have z := all2_cons hh
    clear hh
    obtain ⟨e1, h, rfl, g1, hh⟩ := z
    rcases e1 with ⟨t1, n1, M_codes⟩ | ⟨ci, fs⟩
    rotate_left
    · exact g1.elim
    obtain ⟨et, en, b_codes⟩ := g1
    cases (et : t1 = 0)
    cases en
    have z := all2_cons hh
    clear hh
    obtain ⟨e1, h, rfl, g1, hh⟩ := z
    rcases e1 with ⟨t1, n1, M_clauseOf⟩ | ⟨ci, fs⟩
    rotate_left
    · exact g1.elim
    obtain ⟨et, en, b_clauseOf⟩ := g1
    cases (et : t1 = 0)
    cases en
    have z := all2_cons hh
    clear hh
    obtain ⟨e1, h, rfl, g1, hh⟩ := z
    rcases e1 with ⟨t1, n1, M_codeFrom⟩ | ⟨ci, fs⟩
    rotate_left
    · exact g1.elim
    obtain ⟨et, en, b_codeFrom⟩ := g1
    cases (et : t1 = 0)
    cases en
    have z := all2_cons hh
    clear hh
    obtain ⟨e1, h, rfl, g1, hh⟩ := z
    rcases e1 with ⟨t1, n1, M_codeHalf⟩ | ⟨ci, fs⟩
    rotate_left
    · exact g1.elim
    obtain ⟨et, en, b_codeHalf⟩ := g1
    cases (et : t1 = 0)
    cases en
    have z := all2_cons hh
    clear hh
    obtain ⟨e1, h, rfl, g1, hh⟩ := z
    rcases e1 with ⟨t1, n1, M_codeTo⟩ | ⟨ci, fs⟩
    rotate_left
    · exact g1.elim
    obtain ⟨et, en, b_codeTo⟩ := g1
    cases (et : t1 = 0)
    cases en
    cases h with
    | cons _ _ => exact hh.elim
    | nil =>
    obtain ⟨t0, ht0, rfl⟩ := rng_n (x := M_waiting) (k := 260) b_waiting.1 b_waiting.2
    obtain ⟨s, hs, rfl⟩ := rng_n (x := M_taped) (k := 260) (by omega) b_taped.2
    have es := sz_n (c := s) (by omega)
    obtain ⟨rF, eF⟩ := rg_x rfl b_tape
    have k5 : n ≤ 240 := by omega
    refine (z_X12_law (b := ob (fun i => f_and (decA (τ 251) i) 255)) (n := n) (t0 := t0) (tn := s) h1.1 k5 (by omega) ht0 hs (fun i hi => ob_ok (f := fun i => f_and (decA (τ 251) i) 255) (F := fun i => f_and (M_tape i) 255) (by omega) (by show f_and (M_tape i) 255 = f_and (decA (τ 251) i) 255; rw [eF i (by omega)]) oct_rng)).mono (fun r h' hp => ?_)
    rcases hp with ⟨y, sd, wt, sl, sf, sh, st, c', t', p', m, v, o, f, rfl, kQ, k1, k2, k3, k4, rfl⟩ | ⟨y, sd, wt, sl, sf, sh, st, cd, co, cf, ch, ct, c', t', p', m, v, o, f, rfl, kQ, k1, k2, k3, k4, k6, rfl⟩
    · exact ⟨τ, y, hΦ, fun _ _ => rfl, rfl, kQ, ⟨⟨rfl, rfl, rfl, rfl, rfl, rfl, rfl, rfl, rfl, ⟨_, rfl, b_stampMany⟩, rfl, ⟨_, rfl, nr (m := 0) (k := 0) (by omega) (by omega)⟩, ⟨_, rfl, nr (m := 240) k3 (by omega)⟩, ⟨_, rfl, nr (m := 240) k5 (by omega)⟩, topA_ok _, topA_ok _, topA_ok _, ⟨_, rfl, nr (m := 260) k1 (by omega)⟩, ⟨_, rfl, nr (m := 260) k2 (by omega)⟩, ⟨_, rfl, nr (m := 16) k4 (by omega)⟩, gT_mk (t := 200) rfl rfl ⟨i32lo _, i32hi _⟩, rfl, rfl, rfl, rfl, rfl, rfl, rfl, rfl, rfl, rfl, rfl, rfl, rfl, rfl, rfl, rfl, rfl, ⟨_, rfl, b_newMany⟩, ⟨_, rfl, b_rounds⟩, ⟨_, rfl, b_stampFrom⟩, ⟨_, rfl, b_stampTimes⟩, ⟨_, rfl, b_lines⟩, ⟨_, rfl, b_spot0⟩, ⟨_, rfl, b_pullAcross⟩, ⟨_, rfl, b_pullAlong⟩, ⟨_, rfl, b_stepsNow⟩, ⟨_, rfl, b_fallenNow⟩, rfl, rfl, rfl, rfl, rfl, gT_mk rfl e_isKept b_isKept, trivial⟩, ⟨rfl, rfl, b_tape⟩, ⟨rfl, rfl, of_rg rg_top⟩, ⟨rfl, rfl, of_rg rg_top⟩, ⟨rfl, rfl, of_rg rg_top⟩, ⟨rfl, rfl, of_rg rg_top⟩, ⟨rfl, rfl, of_rg rg_top⟩, ⟨rfl, rfl, of_rg rg_top⟩, ⟨rfl, rfl, b_codes⟩, ⟨rfl, rfl, b_clauseOf⟩, ⟨rfl, rfl, b_codeFrom⟩, ⟨rfl, rfl, b_codeHalf⟩, ⟨rfl, rfl, b_codeTo⟩, trivial⟩⟩
    · refine ⟨tauL τ cd cf ch ct (nI m), y, tauL_Φ k6, fun t ht => tauL_lo (kT200 ht), rfl, kQ, ?_⟩
      have em : (nI m : Int32) = decA (tauL τ cd cf ch ct (nI m) 200) 0 := tauL_m.symm
      exact ⟨⟨rfl, rfl, rfl, rfl, rfl, rfl, rfl, rfl, rfl, ⟨_, rfl, b_stampMany⟩, rfl, ⟨_, rfl, nr (m := 0) (k := 0) (by omega) (by omega)⟩, ⟨_, rfl, nr (m := 240) k3 (by omega)⟩, ⟨_, rfl, nr (m := 240) k5 (by omega)⟩, topA_ok _, topA_ok _, topA_ok _, ⟨_, rfl, nr (m := 260) k1 (by omega)⟩, ⟨_, rfl, nr (m := 260) k2 (by omega)⟩, ⟨_, rfl, nr (m := 16) k4 (by omega)⟩, gT_mk (t := 200) rfl em ⟨i32lo _, i32hi _⟩, rfl, rfl, rfl, rfl, rfl, rfl, rfl, rfl, rfl, rfl, rfl, rfl, rfl, rfl, rfl, rfl, rfl, ⟨_, rfl, b_newMany⟩, ⟨_, rfl, b_rounds⟩, ⟨_, rfl, b_stampFrom⟩, ⟨_, rfl, b_stampTimes⟩, ⟨_, rfl, b_lines⟩, ⟨_, rfl, b_spot0⟩, ⟨_, rfl, b_pullAcross⟩, ⟨_, rfl, b_pullAlong⟩, ⟨_, rfl, b_stepsNow⟩, ⟨_, rfl, b_fallenNow⟩, rfl, rfl, rfl, rfl, rfl, gT_mk rfl e_isKept b_isKept, trivial⟩, ⟨rfl, rfl, b_tape⟩, ⟨rfl, rfl, of_rg rg_top⟩, ⟨rfl, rfl, of_rg rg_top⟩, ⟨rfl, rfl, of_rg rg_top⟩, ⟨rfl, rfl, of_rg rg_top⟩, ⟨rfl, rfl, of_rg rg_top⟩, ⟨rfl, rfl, of_rg rg_top⟩, ⟨rfl, rfl, of_ex (fun i hi => (encA_ok hi).symm)⟩, ⟨rfl, rfl, of_rg rg_top⟩, ⟨rfl, rfl, of_ex (fun i hi => (encA_ok hi).symm)⟩, ⟨rfl, rfl, of_ex (fun i hi => (encA_ok hi).symm)⟩, ⟨rfl, rfl, of_ex (fun i hi => (encA_ok hi).symm)⟩, trivial⟩
def HX_law160R : List AC := hc_9e007a8baa
def HY_law160R : List AC := hc_a074f70448
set_option maxRecDepth 100000 in
theorem x_law160R {l : Launch} {n : Nat} (h1 : 1 ≤ n ∧ n ≤ 160) : conOkX (MetP l 8 yX12_law cX12_law 4 (some .int) 0 0) [nI n] HX_law160R HY_law160R (fun t => Nat.ble t 200) (fun _ => True) (fun τ τ' y => lwY (ob (fun i => f_and (decA (τ 251) i) 255)) n y) := by
  intro τ hΦ hP h hh
  have z := all2_cons hh
  clear hh
  obtain ⟨e0, h, rfl, g0, hh⟩ := z
  rcases e0 with ⟨t0, n0, f0⟩ | ⟨ci, fs⟩
  · exact g0.elim
  obtain ⟨rfl, gf⟩ := g0
  have z := all2_cons gf
  clear gf
  obtain ⟨v0, fs, rfl, q0, gf⟩ := z
  cases gT_r (τ := τ) (t := 0) (v := v0) rfl q0
  have z := all2_cons gf
  clear gf
  obtain ⟨v0, fs, rfl, q0, gf⟩ := z
  cases gT_r (τ := τ) (t := 1) (v := v0) rfl q0
  have z := all2_cons gf
  clear gf
  obtain ⟨v0, fs, rfl, q0, gf⟩ := z
  cases gT_r (τ := τ) (t := 2) (v := v0) rfl q0
  have z := all2_cons gf
  clear gf
  obtain ⟨v0, fs, rfl, q0, gf⟩ := z
  cases gT_r (τ := τ) (t := 3) (v := v0) rfl q0
  have z := all2_cons gf
  clear gf
  obtain ⟨v0, fs, rfl, q0, gf⟩ := z
  cases gT_r (τ := τ) (t := 4) (v := v0) rfl q0
  have z := all2_cons gf
  clear gf
  obtain ⟨v0, fs, rfl, q0, gf⟩ := z
  cases gT_r (τ := τ) (t := 5) (v := v0) rfl q0
  have z := all2_cons gf
  clear gf
  obtain ⟨v0, fs, rfl, q0, gf⟩ := z
  cases gT_r (τ := τ) (t := 6) (v := v0) rfl q0
  have z := all2_cons gf
  clear gf
  obtain ⟨v0, fs, rfl, q0, gf⟩ := z
  cases gT_r (τ := τ) (t := 7) (v := v0) rfl q0
  have z := all2_cons gf
  clear gf
  obtain ⟨v0, fs, rfl, q0, gf⟩ := z
  obtain ⟨M_stampMany, rfl, b_stampMany⟩ := q0
  have z := all2_cons gf
  clear gf
  obtain ⟨v0, fs, rfl, q0, gf⟩ := z
  cases (q0 : v0 = .inr (some (.inl 1)))
  have z := all2_cons gf
  clear gf
  obtain ⟨v0, fs, rfl, q0, gf⟩ := z
  obtain ⟨M_taped, rfl, b_taped⟩ := q0
  have z := all2_cons gf
  clear gf
  obtain ⟨v0, fs, rfl, q0, gf⟩ := z
  obtain ⟨M_place0, rfl, b_place0⟩ := q0
  have z := all2_cons gf
  clear gf
  obtain ⟨v0, fs, rfl, q0, gf⟩ := z
  obtain ⟨M_length0, rfl, b_length0⟩ := q0
  have z := all2_cons gf
  clear gf
  obtain ⟨v0, fs, rfl, q0, gf⟩ := z
  obtain ⟨M_fault, rfl, b_fault⟩ := q0
  have z := all2_cons gf
  clear gf
  obtain ⟨v0, fs, rfl, q0, gf⟩ := z
  obtain ⟨M_number0, rfl, b_number0⟩ := q0
  have z := all2_cons gf
  clear gf
  obtain ⟨v0, fs, rfl, q0, gf⟩ := z
  obtain ⟨M_open, rfl, b_open⟩ := q0
  have z := all2_cons gf
  clear gf
  obtain ⟨v0, fs, rfl, q0, gf⟩ := z
  obtain ⟨M_codeMany, rfl, b_codeMany⟩ := q0
  have z := all2_cons gf
  clear gf
  obtain ⟨v0, fs, rfl, q0, gf⟩ := z
  obtain ⟨M_waiting, rfl, b_waiting⟩ := q0
  have z := all2_cons gf
  clear gf
  obtain ⟨v0, fs, rfl, q0, gf⟩ := z
  obtain ⟨M_saidMany, rfl, b_saidMany⟩ := q0
  have z := all2_cons gf
  clear gf
  obtain ⟨v0, fs, rfl, q0, gf⟩ := z
  cases gT_i (τ := τ) (t := 200) (v := v0) rfl q0
  have z := all2_cons gf
  clear gf
  obtain ⟨v0, fs, rfl, q0, gf⟩ := z
  cases (q0 : v0 = .inr (some (.inl 2)))
  have z := all2_cons gf
  clear gf
  obtain ⟨v0, fs, rfl, q0, gf⟩ := z
  cases (q0 : v0 = .inr (some (.inl 3)))
  have z := all2_cons gf
  clear gf
  obtain ⟨v0, fs, rfl, q0, gf⟩ := z
  cases (q0 : v0 = .inr (some (.inl 4)))
  have z := all2_cons gf
  clear gf
  obtain ⟨v0, fs, rfl, q0, gf⟩ := z
  cases (q0 : v0 = .inr (some (.inl 5)))
  have z := all2_cons gf
  clear gf
  obtain ⟨v0, fs, rfl, q0, gf⟩ := z
  cases (q0 : v0 = .inr (some (.inl 6)))
  have z := all2_cons gf
  clear gf
  obtain ⟨v0, fs, rfl, q0, gf⟩ := z
  cases (q0 : v0 = .inr (some (.inl 7)))
  have z := all2_cons gf
  clear gf
  obtain ⟨v0, fs, rfl, q0, gf⟩ := z
  cases (q0 : v0 = .inr (some (.inl 8)))
  have z := all2_cons gf
  clear gf
  obtain ⟨v0, fs, rfl, q0, gf⟩ := z
  cases (q0 : v0 = .inr (some (.inl 9)))
  have z := all2_cons gf
  clear gf
  obtain ⟨v0, fs, rfl, q0, gf⟩ := z
  cases (q0 : v0 = .inr (some (.inl 10)))
  have z := all2_cons gf
  clear gf
  obtain ⟨v0, fs, rfl, q0, gf⟩ := z
  cases (q0 : v0 = .inr (some (.inl 11)))
  have z := all2_cons gf
  clear gf
  obtain ⟨v0, fs, rfl, q0, gf⟩ := z
  cases (q0 : v0 = .inr (some (.inl 12)))
  have z := all2_cons gf
  clear gf
  obtain ⟨v0, fs, rfl, q0, gf⟩ := z
  cases gT_r (τ := τ) (t := 8) (v := v0) rfl q0
  have z := all2_cons gf
  clear gf
  obtain ⟨v0, fs, rfl, q0, gf⟩ := z
  cases gT_r (τ := τ) (t := 9) (v := v0) rfl q0
  have z := all2_cons gf
  clear gf
  obtain ⟨v0, fs, rfl, q0, gf⟩ := z
  cases gT_r (τ := τ) (t := 10) (v := v0) rfl q0
  have z := all2_cons gf
  clear gf
  obtain ⟨v0, fs, rfl, q0, gf⟩ := z
  cases gT_r (τ := τ) (t := 11) (v := v0) rfl q0
  have z := all2_cons gf
  clear gf
  obtain ⟨v0, fs, rfl, q0, gf⟩ := z
  cases gT_r (τ := τ) (t := 12) (v := v0) rfl q0
  have z := all2_cons gf
  clear gf
  obtain ⟨v0, fs, rfl, q0, gf⟩ := z
  cases gT_r (τ := τ) (t := 13) (v := v0) rfl q0
  have z := all2_cons gf
  clear gf
  obtain ⟨v0, fs, rfl, q0, gf⟩ := z
  obtain ⟨M_newMany, rfl, b_newMany⟩ := q0
  have z := all2_cons gf
  clear gf
  obtain ⟨v0, fs, rfl, q0, gf⟩ := z
  obtain ⟨M_rounds, rfl, b_rounds⟩ := q0
  have z := all2_cons gf
  clear gf
  obtain ⟨v0, fs, rfl, q0, gf⟩ := z
  obtain ⟨M_stampFrom, rfl, b_stampFrom⟩ := q0
  have z := all2_cons gf
  clear gf
  obtain ⟨v0, fs, rfl, q0, gf⟩ := z
  obtain ⟨M_stampTimes, rfl, b_stampTimes⟩ := q0
  have z := all2_cons gf
  clear gf
  obtain ⟨v0, fs, rfl, q0, gf⟩ := z
  obtain ⟨M_lines, rfl, b_lines⟩ := q0
  have z := all2_cons gf
  clear gf
  obtain ⟨v0, fs, rfl, q0, gf⟩ := z
  obtain ⟨M_spot0, rfl, b_spot0⟩ := q0
  have z := all2_cons gf
  clear gf
  obtain ⟨v0, fs, rfl, q0, gf⟩ := z
  obtain ⟨M_pullAcross, rfl, b_pullAcross⟩ := q0
  have z := all2_cons gf
  clear gf
  obtain ⟨v0, fs, rfl, q0, gf⟩ := z
  obtain ⟨M_pullAlong, rfl, b_pullAlong⟩ := q0
  have z := all2_cons gf
  clear gf
  obtain ⟨v0, fs, rfl, q0, gf⟩ := z
  obtain ⟨M_stepsNow, rfl, b_stepsNow⟩ := q0
  have z := all2_cons gf
  clear gf
  obtain ⟨v0, fs, rfl, q0, gf⟩ := z
  obtain ⟨M_fallenNow, rfl, b_fallenNow⟩ := q0
  have z := all2_cons gf
  clear gf
  obtain ⟨v0, fs, rfl, q0, gf⟩ := z
  cases gT_r (τ := τ) (t := 14) (v := v0) rfl q0
  have z := all2_cons gf
  clear gf
  obtain ⟨v0, fs, rfl, q0, gf⟩ := z
  cases gT_r (τ := τ) (t := 15) (v := v0) rfl q0
  have z := all2_cons gf
  clear gf
  obtain ⟨v0, fs, rfl, q0, gf⟩ := z
  cases gT_r (τ := τ) (t := 16) (v := v0) rfl q0
  have z := all2_cons gf
  clear gf
  obtain ⟨v0, fs, rfl, q0, gf⟩ := z
  cases gT_r (τ := τ) (t := 17) (v := v0) rfl q0
  have z := all2_cons gf
  clear gf
  obtain ⟨v0, fs, rfl, q0, gf⟩ := z
  cases gT_r (τ := τ) (t := 18) (v := v0) rfl q0
  have z := all2_cons gf
  clear gf
  obtain ⟨v0, fs, rfl, q0, gf⟩ := z
  obtain ⟨M_isKept, rfl, e_isKept, b_isKept⟩ := gT_x (τ := τ) (t := 201) (v := v0) rfl q0
  cases fs with
  | cons _ _ => exact gf.elim
  | nil =>
    have z := all2_cons hh
    clear hh
    obtain ⟨e1, h, rfl, g1, hh⟩ := z
    rcases e1 with ⟨t1, n1, M_tape⟩ | ⟨ci, fs⟩
    rotate_left
    · exact g1.elim
    obtain ⟨et, en, b_tape⟩ := g1
    cases (et : t1 = 1)
    cases en
    have z := all2_cons hh
    clear hh
    obtain ⟨e1, h, rfl, g1, hh⟩ := z
    rcases e1 with ⟨t1, n1, M_said⟩ | ⟨ci, fs⟩
    rotate_left
    · exact g1.elim
    obtain ⟨et, en, b_said⟩ := g1
    cases (et : t1 = 0)
    cases en
    have z := all2_cons hh
    clear hh
    obtain ⟨e1, h, rfl, g1, hh⟩ := z
    rcases e1 with ⟨t1, n1, M_waitsAt⟩ | ⟨ci, fs⟩
    rotate_left
    · exact g1.elim
    obtain ⟨et, en, b_waitsAt⟩ := g1
    cases (et : t1 = 0)
    cases en
    have z := all2_cons hh
    clear hh
    obtain ⟨e1, h, rfl, g1, hh⟩ := z
    rcases e1 with ⟨t1, n1, M_saidLetter⟩ | ⟨ci, fs⟩
    rotate_left
    · exact g1.elim
    obtain ⟨et, en, b_saidLetter⟩ := g1
    cases (et : t1 = 0)
    cases en
    have z := all2_cons hh
    clear hh
    obtain ⟨e1, h, rfl, g1, hh⟩ := z
    rcases e1 with ⟨t1, n1, M_saidFrom⟩ | ⟨ci, fs⟩
    rotate_left
    · exact g1.elim
    obtain ⟨et, en, b_saidFrom⟩ := g1
    cases (et : t1 = 0)
    cases en
    have z := all2_cons hh
    clear hh
    obtain ⟨e1, h, rfl, g1, hh⟩ := z
    rcases e1 with ⟨t1, n1, M_saidHalf⟩ | ⟨ci, fs⟩
    rotate_left
    · exact g1.elim
    obtain ⟨et, en, b_saidHalf⟩ := g1
    cases (et : t1 = 0)
    cases en
    have z := all2_cons hh
    clear hh
    obtain ⟨e1, h, rfl, g1, hh⟩ := z
    rcases e1 with ⟨t1, n1, M_saidTo⟩ | ⟨ci, fs⟩
    rotate_left
    · exact g1.elim
    obtain ⟨et, en, b_saidTo⟩ := g1
    cases (et : t1 = 0)
    cases en
    have z := all2_cons hh
    clear hh
    obtain ⟨e1, h, rfl, g1, hh⟩ := z
    rcases e1 with ⟨t1, n1, M_codes⟩ | ⟨ci, fs⟩
    rotate_left
    · exact g1.elim
    obtain ⟨et, en, b_codes⟩ := g1
    cases (et : t1 = 0)
    cases en
    have z := all2_cons hh
    clear hh
    obtain ⟨e1, h, rfl, g1, hh⟩ := z
    rcases e1 with ⟨t1, n1, M_clauseOf⟩ | ⟨ci, fs⟩
    rotate_left
    · exact g1.elim
    obtain ⟨et, en, b_clauseOf⟩ := g1
    cases (et : t1 = 0)
    cases en
    have z := all2_cons hh
    clear hh
    obtain ⟨e1, h, rfl, g1, hh⟩ := z
    rcases e1 with ⟨t1, n1, M_codeFrom⟩ | ⟨ci, fs⟩
    rotate_left
    · exact g1.elim
    obtain ⟨et, en, b_codeFrom⟩ := g1
    cases (et : t1 = 0)
    cases en
    have z := all2_cons hh
    clear hh
    obtain ⟨e1, h, rfl, g1, hh⟩ := z
    rcases e1 with ⟨t1, n1, M_codeHalf⟩ | ⟨ci, fs⟩
    rotate_left
    · exact g1.elim
    obtain ⟨et, en, b_codeHalf⟩ := g1
    cases (et : t1 = 0)
    cases en
    have z := all2_cons hh
    clear hh
    obtain ⟨e1, h, rfl, g1, hh⟩ := z
    rcases e1 with ⟨t1, n1, M_codeTo⟩ | ⟨ci, fs⟩
    rotate_left
    · exact g1.elim
    obtain ⟨et, en, b_codeTo⟩ := g1
    cases (et : t1 = 0)
    cases en
    cases h with
    | cons _ _ => exact hh.elim
    | nil =>
    obtain ⟨t0, ht0, rfl⟩ := rng_n (x := M_waiting) (k := 260) b_waiting.1 b_waiting.2
    obtain ⟨s, hs, rfl⟩ := rng_n (x := M_taped) (k := 260) (by omega) b_taped.2
    have es := sz_n (c := s) (by omega)
    obtain ⟨rF, eF⟩ := rg_x rfl b_tape
    have k5 : n ≤ 240 := by omega
    refine (z_X12_law (b := ob (fun i => f_and (decA (τ 251) i) 255)) (n := n) (t0 := t0) (tn := s) h1.1 k5 (by omega) ht0 hs (fun i hi => ob_ok (f := fun i => f_and (decA (τ 251) i) 255) (F := fun i => f_and (M_tape i) 255) (by omega) (by show f_and (M_tape i) 255 = f_and (decA (τ 251) i) 255; rw [eF i (by omega)]) oct_rng)).mono (fun r h' hp => ?_)
    rcases hp with ⟨y, sd, wt, sl, sf, sh, st, c', t', p', m, v, o, f, rfl, kQ, k1, k2, k3, k4, rfl⟩ | ⟨y, sd, wt, sl, sf, sh, st, cd, co, cf, ch, ct, c', t', p', m, v, o, f, rfl, kQ, k1, k2, k3, k4, k6, rfl⟩
    · exact ⟨τ, y, hΦ, fun _ _ => rfl, rfl, kQ, ⟨⟨rfl, rfl, rfl, rfl, rfl, rfl, rfl, rfl, rfl, ⟨_, rfl, b_stampMany⟩, rfl, ⟨_, rfl, nr (m := 0) (k := 0) (by omega) (by omega)⟩, ⟨_, rfl, nr (m := 240) k3 (by omega)⟩, ⟨_, rfl, nr (m := 240) k5 (by omega)⟩, topA_ok _, topA_ok _, topA_ok _, ⟨_, rfl, nr (m := 260) k1 (by omega)⟩, ⟨_, rfl, nr (m := 260) k2 (by omega)⟩, ⟨_, rfl, nr (m := 16) k4 (by omega)⟩, gT_mk (t := 200) rfl rfl ⟨i32lo _, i32hi _⟩, rfl, rfl, rfl, rfl, rfl, rfl, rfl, rfl, rfl, rfl, rfl, rfl, rfl, rfl, rfl, rfl, rfl, ⟨_, rfl, b_newMany⟩, ⟨_, rfl, b_rounds⟩, ⟨_, rfl, b_stampFrom⟩, ⟨_, rfl, b_stampTimes⟩, ⟨_, rfl, b_lines⟩, ⟨_, rfl, b_spot0⟩, ⟨_, rfl, b_pullAcross⟩, ⟨_, rfl, b_pullAlong⟩, ⟨_, rfl, b_stepsNow⟩, ⟨_, rfl, b_fallenNow⟩, rfl, rfl, rfl, rfl, rfl, gT_mk rfl e_isKept b_isKept, trivial⟩, ⟨rfl, rfl, b_tape⟩, ⟨rfl, rfl, of_rg rg_top⟩, ⟨rfl, rfl, of_rg rg_top⟩, ⟨rfl, rfl, of_rg rg_top⟩, ⟨rfl, rfl, of_rg rg_top⟩, ⟨rfl, rfl, of_rg rg_top⟩, ⟨rfl, rfl, of_rg rg_top⟩, ⟨rfl, rfl, b_codes⟩, ⟨rfl, rfl, b_clauseOf⟩, ⟨rfl, rfl, b_codeFrom⟩, ⟨rfl, rfl, b_codeHalf⟩, ⟨rfl, rfl, b_codeTo⟩, trivial⟩⟩
    · refine ⟨tauL τ cd cf ch ct (nI m), y, tauL_Φ k6, fun t ht => tauL_lo (kT200 ht), rfl, kQ, ?_⟩
      have em : (nI m : Int32) = decA (tauL τ cd cf ch ct (nI m) 200) 0 := tauL_m.symm
      exact ⟨⟨rfl, rfl, rfl, rfl, rfl, rfl, rfl, rfl, rfl, ⟨_, rfl, b_stampMany⟩, rfl, ⟨_, rfl, nr (m := 0) (k := 0) (by omega) (by omega)⟩, ⟨_, rfl, nr (m := 240) k3 (by omega)⟩, ⟨_, rfl, nr (m := 240) k5 (by omega)⟩, topA_ok _, topA_ok _, topA_ok _, ⟨_, rfl, nr (m := 260) k1 (by omega)⟩, ⟨_, rfl, nr (m := 260) k2 (by omega)⟩, ⟨_, rfl, nr (m := 16) k4 (by omega)⟩, gT_mk (t := 200) rfl em ⟨i32lo _, i32hi _⟩, rfl, rfl, rfl, rfl, rfl, rfl, rfl, rfl, rfl, rfl, rfl, rfl, rfl, rfl, rfl, rfl, rfl, ⟨_, rfl, b_newMany⟩, ⟨_, rfl, b_rounds⟩, ⟨_, rfl, b_stampFrom⟩, ⟨_, rfl, b_stampTimes⟩, ⟨_, rfl, b_lines⟩, ⟨_, rfl, b_spot0⟩, ⟨_, rfl, b_pullAcross⟩, ⟨_, rfl, b_pullAlong⟩, ⟨_, rfl, b_stepsNow⟩, ⟨_, rfl, b_fallenNow⟩, rfl, rfl, rfl, rfl, rfl, gT_mk rfl e_isKept b_isKept, trivial⟩, ⟨rfl, rfl, b_tape⟩, ⟨rfl, rfl, of_rg rg_top⟩, ⟨rfl, rfl, of_rg rg_top⟩, ⟨rfl, rfl, of_rg rg_top⟩, ⟨rfl, rfl, of_rg rg_top⟩, ⟨rfl, rfl, of_rg rg_top⟩, ⟨rfl, rfl, of_rg rg_top⟩, ⟨rfl, rfl, of_ex (fun i hi => (encA_ok hi).symm)⟩, ⟨rfl, rfl, of_rg rg_top⟩, ⟨rfl, rfl, of_ex (fun i hi => (encA_ok hi).symm)⟩, ⟨rfl, rfl, of_ex (fun i hi => (encA_ok hi).symm)⟩, ⟨rfl, rfl, of_ex (fun i hi => (encA_ok hi).symm)⟩, trivial⟩
def HX_law180R : List AC := hc_fe99a297ac
def HY_law180R : List AC := hc_a074f70448
set_option maxRecDepth 100000 in
theorem x_law180R {l : Launch} {n : Nat} (h1 : 1 ≤ n ∧ n ≤ 180) : conOkX (MetP l 8 yX12_law cX12_law 4 (some .int) 0 0) [nI n] HX_law180R HY_law180R (fun t => Nat.ble t 200) (fun _ => True) (fun τ τ' y => lwY (ob (fun i => f_and (decA (τ 251) i) 255)) n y) := by
  intro τ hΦ hP h hh
  have z := all2_cons hh
  clear hh
  obtain ⟨e0, h, rfl, g0, hh⟩ := z
  rcases e0 with ⟨t0, n0, f0⟩ | ⟨ci, fs⟩
  · exact g0.elim
  obtain ⟨rfl, gf⟩ := g0
  have z := all2_cons gf
  clear gf
  obtain ⟨v0, fs, rfl, q0, gf⟩ := z
  cases gT_r (τ := τ) (t := 0) (v := v0) rfl q0
  have z := all2_cons gf
  clear gf
  obtain ⟨v0, fs, rfl, q0, gf⟩ := z
  cases gT_r (τ := τ) (t := 1) (v := v0) rfl q0
  have z := all2_cons gf
  clear gf
  obtain ⟨v0, fs, rfl, q0, gf⟩ := z
  cases gT_r (τ := τ) (t := 2) (v := v0) rfl q0
  have z := all2_cons gf
  clear gf
  obtain ⟨v0, fs, rfl, q0, gf⟩ := z
  cases gT_r (τ := τ) (t := 3) (v := v0) rfl q0
  have z := all2_cons gf
  clear gf
  obtain ⟨v0, fs, rfl, q0, gf⟩ := z
  cases gT_r (τ := τ) (t := 4) (v := v0) rfl q0
  have z := all2_cons gf
  clear gf
  obtain ⟨v0, fs, rfl, q0, gf⟩ := z
  cases gT_r (τ := τ) (t := 5) (v := v0) rfl q0
  have z := all2_cons gf
  clear gf
  obtain ⟨v0, fs, rfl, q0, gf⟩ := z
  cases gT_r (τ := τ) (t := 6) (v := v0) rfl q0
  have z := all2_cons gf
  clear gf
  obtain ⟨v0, fs, rfl, q0, gf⟩ := z
  cases gT_r (τ := τ) (t := 7) (v := v0) rfl q0
  have z := all2_cons gf
  clear gf
  obtain ⟨v0, fs, rfl, q0, gf⟩ := z
  obtain ⟨M_stampMany, rfl, b_stampMany⟩ := q0
  have z := all2_cons gf
  clear gf
  obtain ⟨v0, fs, rfl, q0, gf⟩ := z
  cases (q0 : v0 = .inr (some (.inl 1)))
  have z := all2_cons gf
  clear gf
  obtain ⟨v0, fs, rfl, q0, gf⟩ := z
  obtain ⟨M_taped, rfl, b_taped⟩ := q0
  have z := all2_cons gf
  clear gf
  obtain ⟨v0, fs, rfl, q0, gf⟩ := z
  obtain ⟨M_place0, rfl, b_place0⟩ := q0
  have z := all2_cons gf
  clear gf
  obtain ⟨v0, fs, rfl, q0, gf⟩ := z
  obtain ⟨M_length0, rfl, b_length0⟩ := q0
  have z := all2_cons gf
  clear gf
  obtain ⟨v0, fs, rfl, q0, gf⟩ := z
  obtain ⟨M_fault, rfl, b_fault⟩ := q0
  have z := all2_cons gf
  clear gf
  obtain ⟨v0, fs, rfl, q0, gf⟩ := z
  obtain ⟨M_number0, rfl, b_number0⟩ := q0
  have z := all2_cons gf
  clear gf
  obtain ⟨v0, fs, rfl, q0, gf⟩ := z
  obtain ⟨M_open, rfl, b_open⟩ := q0
  have z := all2_cons gf
  clear gf
  obtain ⟨v0, fs, rfl, q0, gf⟩ := z
  obtain ⟨M_codeMany, rfl, b_codeMany⟩ := q0
  have z := all2_cons gf
  clear gf
  obtain ⟨v0, fs, rfl, q0, gf⟩ := z
  obtain ⟨M_waiting, rfl, b_waiting⟩ := q0
  have z := all2_cons gf
  clear gf
  obtain ⟨v0, fs, rfl, q0, gf⟩ := z
  obtain ⟨M_saidMany, rfl, b_saidMany⟩ := q0
  have z := all2_cons gf
  clear gf
  obtain ⟨v0, fs, rfl, q0, gf⟩ := z
  cases gT_i (τ := τ) (t := 200) (v := v0) rfl q0
  have z := all2_cons gf
  clear gf
  obtain ⟨v0, fs, rfl, q0, gf⟩ := z
  cases (q0 : v0 = .inr (some (.inl 2)))
  have z := all2_cons gf
  clear gf
  obtain ⟨v0, fs, rfl, q0, gf⟩ := z
  cases (q0 : v0 = .inr (some (.inl 3)))
  have z := all2_cons gf
  clear gf
  obtain ⟨v0, fs, rfl, q0, gf⟩ := z
  cases (q0 : v0 = .inr (some (.inl 4)))
  have z := all2_cons gf
  clear gf
  obtain ⟨v0, fs, rfl, q0, gf⟩ := z
  cases (q0 : v0 = .inr (some (.inl 5)))
  have z := all2_cons gf
  clear gf
  obtain ⟨v0, fs, rfl, q0, gf⟩ := z
  cases (q0 : v0 = .inr (some (.inl 6)))
  have z := all2_cons gf
  clear gf
  obtain ⟨v0, fs, rfl, q0, gf⟩ := z
  cases (q0 : v0 = .inr (some (.inl 7)))
  have z := all2_cons gf
  clear gf
  obtain ⟨v0, fs, rfl, q0, gf⟩ := z
  cases (q0 : v0 = .inr (some (.inl 8)))
  have z := all2_cons gf
  clear gf
  obtain ⟨v0, fs, rfl, q0, gf⟩ := z
  cases (q0 : v0 = .inr (some (.inl 9)))
  have z := all2_cons gf
  clear gf
  obtain ⟨v0, fs, rfl, q0, gf⟩ := z
  cases (q0 : v0 = .inr (some (.inl 10)))
  have z := all2_cons gf
  clear gf
  obtain ⟨v0, fs, rfl, q0, gf⟩ := z
  cases (q0 : v0 = .inr (some (.inl 11)))
  have z := all2_cons gf
  clear gf
  obtain ⟨v0, fs, rfl, q0, gf⟩ := z
  cases (q0 : v0 = .inr (some (.inl 12)))
  have z := all2_cons gf
  clear gf
  obtain ⟨v0, fs, rfl, q0, gf⟩ := z
  cases gT_r (τ := τ) (t := 8) (v := v0) rfl q0
  have z := all2_cons gf
  clear gf
  obtain ⟨v0, fs, rfl, q0, gf⟩ := z
  cases gT_r (τ := τ) (t := 9) (v := v0) rfl q0
  have z := all2_cons gf
  clear gf
  obtain ⟨v0, fs, rfl, q0, gf⟩ := z
  cases gT_r (τ := τ) (t := 10) (v := v0) rfl q0
  have z := all2_cons gf
  clear gf
  obtain ⟨v0, fs, rfl, q0, gf⟩ := z
  cases gT_r (τ := τ) (t := 11) (v := v0) rfl q0
  have z := all2_cons gf
  clear gf
  obtain ⟨v0, fs, rfl, q0, gf⟩ := z
  cases gT_r (τ := τ) (t := 12) (v := v0) rfl q0
  have z := all2_cons gf
  clear gf
  obtain ⟨v0, fs, rfl, q0, gf⟩ := z
  cases gT_r (τ := τ) (t := 13) (v := v0) rfl q0
  have z := all2_cons gf
  clear gf
  obtain ⟨v0, fs, rfl, q0, gf⟩ := z
  obtain ⟨M_newMany, rfl, b_newMany⟩ := q0
  have z := all2_cons gf
  clear gf
  obtain ⟨v0, fs, rfl, q0, gf⟩ := z
  obtain ⟨M_rounds, rfl, b_rounds⟩ := q0
  have z := all2_cons gf
  clear gf
  obtain ⟨v0, fs, rfl, q0, gf⟩ := z
  obtain ⟨M_stampFrom, rfl, b_stampFrom⟩ := q0
  have z := all2_cons gf
  clear gf
  obtain ⟨v0, fs, rfl, q0, gf⟩ := z
  obtain ⟨M_stampTimes, rfl, b_stampTimes⟩ := q0
  have z := all2_cons gf
  clear gf
  obtain ⟨v0, fs, rfl, q0, gf⟩ := z
  obtain ⟨M_lines, rfl, b_lines⟩ := q0
  have z := all2_cons gf
  clear gf
  obtain ⟨v0, fs, rfl, q0, gf⟩ := z
  obtain ⟨M_spot0, rfl, b_spot0⟩ := q0
  have z := all2_cons gf
  clear gf
  obtain ⟨v0, fs, rfl, q0, gf⟩ := z
  obtain ⟨M_pullAcross, rfl, b_pullAcross⟩ := q0
  have z := all2_cons gf
  clear gf
  obtain ⟨v0, fs, rfl, q0, gf⟩ := z
  obtain ⟨M_pullAlong, rfl, b_pullAlong⟩ := q0
  have z := all2_cons gf
  clear gf
  obtain ⟨v0, fs, rfl, q0, gf⟩ := z
  obtain ⟨M_stepsNow, rfl, b_stepsNow⟩ := q0
  have z := all2_cons gf
  clear gf
  obtain ⟨v0, fs, rfl, q0, gf⟩ := z
  obtain ⟨M_fallenNow, rfl, b_fallenNow⟩ := q0
  have z := all2_cons gf
  clear gf
  obtain ⟨v0, fs, rfl, q0, gf⟩ := z
  cases gT_r (τ := τ) (t := 14) (v := v0) rfl q0
  have z := all2_cons gf
  clear gf
  obtain ⟨v0, fs, rfl, q0, gf⟩ := z
  cases gT_r (τ := τ) (t := 15) (v := v0) rfl q0
  have z := all2_cons gf
  clear gf
  obtain ⟨v0, fs, rfl, q0, gf⟩ := z
  cases gT_r (τ := τ) (t := 16) (v := v0) rfl q0
  have z := all2_cons gf
  clear gf
  obtain ⟨v0, fs, rfl, q0, gf⟩ := z
  cases gT_r (τ := τ) (t := 17) (v := v0) rfl q0
  have z := all2_cons gf
  clear gf
  obtain ⟨v0, fs, rfl, q0, gf⟩ := z
  cases gT_r (τ := τ) (t := 18) (v := v0) rfl q0
  have z := all2_cons gf
  clear gf
  obtain ⟨v0, fs, rfl, q0, gf⟩ := z
  obtain ⟨M_isKept, rfl, e_isKept, b_isKept⟩ := gT_x (τ := τ) (t := 201) (v := v0) rfl q0
  cases fs with
  | cons _ _ => exact gf.elim
  | nil =>
    have z := all2_cons hh
    clear hh
    obtain ⟨e1, h, rfl, g1, hh⟩ := z
    rcases e1 with ⟨t1, n1, M_tape⟩ | ⟨ci, fs⟩
    rotate_left
    · exact g1.elim
    obtain ⟨et, en, b_tape⟩ := g1
    cases (et : t1 = 1)
    cases en
    have z := all2_cons hh
    clear hh
    obtain ⟨e1, h, rfl, g1, hh⟩ := z
    rcases e1 with ⟨t1, n1, M_said⟩ | ⟨ci, fs⟩
    rotate_left
    · exact g1.elim
    obtain ⟨et, en, b_said⟩ := g1
    cases (et : t1 = 0)
    cases en
    have z := all2_cons hh
    clear hh
    obtain ⟨e1, h, rfl, g1, hh⟩ := z
    rcases e1 with ⟨t1, n1, M_waitsAt⟩ | ⟨ci, fs⟩
    rotate_left
    · exact g1.elim
    obtain ⟨et, en, b_waitsAt⟩ := g1
    cases (et : t1 = 0)
    cases en
    have z := all2_cons hh
    clear hh
    obtain ⟨e1, h, rfl, g1, hh⟩ := z
    rcases e1 with ⟨t1, n1, M_saidLetter⟩ | ⟨ci, fs⟩
    rotate_left
    · exact g1.elim
    obtain ⟨et, en, b_saidLetter⟩ := g1
    cases (et : t1 = 0)
    cases en
    have z := all2_cons hh
    clear hh
    obtain ⟨e1, h, rfl, g1, hh⟩ := z
    rcases e1 with ⟨t1, n1, M_saidFrom⟩ | ⟨ci, fs⟩
    rotate_left
    · exact g1.elim
    obtain ⟨et, en, b_saidFrom⟩ := g1
    cases (et : t1 = 0)
    cases en
    have z := all2_cons hh
    clear hh
    obtain ⟨e1, h, rfl, g1, hh⟩ := z
    rcases e1 with ⟨t1, n1, M_saidHalf⟩ | ⟨ci, fs⟩
    rotate_left
    · exact g1.elim
    obtain ⟨et, en, b_saidHalf⟩ := g1
    cases (et : t1 = 0)
    cases en
    have z := all2_cons hh
    clear hh
    obtain ⟨e1, h, rfl, g1, hh⟩ := z
    rcases e1 with ⟨t1, n1, M_saidTo⟩ | ⟨ci, fs⟩
    rotate_left
    · exact g1.elim
    obtain ⟨et, en, b_saidTo⟩ := g1
    cases (et : t1 = 0)
    cases en
    have z := all2_cons hh
    clear hh
    obtain ⟨e1, h, rfl, g1, hh⟩ := z
    rcases e1 with ⟨t1, n1, M_codes⟩ | ⟨ci, fs⟩
    rotate_left
    · exact g1.elim
    obtain ⟨et, en, b_codes⟩ := g1
    cases (et : t1 = 0)
    cases en
    have z := all2_cons hh
    clear hh
    obtain ⟨e1, h, rfl, g1, hh⟩ := z
    rcases e1 with ⟨t1, n1, M_clauseOf⟩ | ⟨ci, fs⟩
    rotate_left
    · exact g1.elim
    obtain ⟨et, en, b_clauseOf⟩ := g1
    cases (et : t1 = 0)
    cases en
    have z := all2_cons hh
    clear hh
    obtain ⟨e1, h, rfl, g1, hh⟩ := z
    rcases e1 with ⟨t1, n1, M_codeFrom⟩ | ⟨ci, fs⟩
    rotate_left
    · exact g1.elim
    obtain ⟨et, en, b_codeFrom⟩ := g1
    cases (et : t1 = 0)
    cases en
    have z := all2_cons hh
    clear hh
    obtain ⟨e1, h, rfl, g1, hh⟩ := z
    rcases e1 with ⟨t1, n1, M_codeHalf⟩ | ⟨ci, fs⟩
    rotate_left
    · exact g1.elim
    obtain ⟨et, en, b_codeHalf⟩ := g1
    cases (et : t1 = 0)
    cases en
    have z := all2_cons hh
    clear hh
    obtain ⟨e1, h, rfl, g1, hh⟩ := z
    rcases e1 with ⟨t1, n1, M_codeTo⟩ | ⟨ci, fs⟩
    rotate_left
    · exact g1.elim
    obtain ⟨et, en, b_codeTo⟩ := g1
    cases (et : t1 = 0)
    cases en
    cases h with
    | cons _ _ => exact hh.elim
    | nil =>
    obtain ⟨t0, ht0, rfl⟩ := rng_n (x := M_waiting) (k := 260) b_waiting.1 b_waiting.2
    obtain ⟨s, hs, rfl⟩ := rng_n (x := M_taped) (k := 260) (by omega) b_taped.2
    have es := sz_n (c := s) (by omega)
    obtain ⟨rF, eF⟩ := rg_x rfl b_tape
    have k5 : n ≤ 240 := by omega
    refine (z_X12_law (b := ob (fun i => f_and (decA (τ 251) i) 255)) (n := n) (t0 := t0) (tn := s) h1.1 k5 (by omega) ht0 hs (fun i hi => ob_ok (f := fun i => f_and (decA (τ 251) i) 255) (F := fun i => f_and (M_tape i) 255) (by omega) (by show f_and (M_tape i) 255 = f_and (decA (τ 251) i) 255; rw [eF i (by omega)]) oct_rng)).mono (fun r h' hp => ?_)
    rcases hp with ⟨y, sd, wt, sl, sf, sh, st, c', t', p', m, v, o, f, rfl, kQ, k1, k2, k3, k4, rfl⟩ | ⟨y, sd, wt, sl, sf, sh, st, cd, co, cf, ch, ct, c', t', p', m, v, o, f, rfl, kQ, k1, k2, k3, k4, k6, rfl⟩
    · exact ⟨τ, y, hΦ, fun _ _ => rfl, rfl, kQ, ⟨⟨rfl, rfl, rfl, rfl, rfl, rfl, rfl, rfl, rfl, ⟨_, rfl, b_stampMany⟩, rfl, ⟨_, rfl, nr (m := 0) (k := 0) (by omega) (by omega)⟩, ⟨_, rfl, nr (m := 240) k3 (by omega)⟩, ⟨_, rfl, nr (m := 240) k5 (by omega)⟩, topA_ok _, topA_ok _, topA_ok _, ⟨_, rfl, nr (m := 260) k1 (by omega)⟩, ⟨_, rfl, nr (m := 260) k2 (by omega)⟩, ⟨_, rfl, nr (m := 16) k4 (by omega)⟩, gT_mk (t := 200) rfl rfl ⟨i32lo _, i32hi _⟩, rfl, rfl, rfl, rfl, rfl, rfl, rfl, rfl, rfl, rfl, rfl, rfl, rfl, rfl, rfl, rfl, rfl, ⟨_, rfl, b_newMany⟩, ⟨_, rfl, b_rounds⟩, ⟨_, rfl, b_stampFrom⟩, ⟨_, rfl, b_stampTimes⟩, ⟨_, rfl, b_lines⟩, ⟨_, rfl, b_spot0⟩, ⟨_, rfl, b_pullAcross⟩, ⟨_, rfl, b_pullAlong⟩, ⟨_, rfl, b_stepsNow⟩, ⟨_, rfl, b_fallenNow⟩, rfl, rfl, rfl, rfl, rfl, gT_mk rfl e_isKept b_isKept, trivial⟩, ⟨rfl, rfl, b_tape⟩, ⟨rfl, rfl, of_rg rg_top⟩, ⟨rfl, rfl, of_rg rg_top⟩, ⟨rfl, rfl, of_rg rg_top⟩, ⟨rfl, rfl, of_rg rg_top⟩, ⟨rfl, rfl, of_rg rg_top⟩, ⟨rfl, rfl, of_rg rg_top⟩, ⟨rfl, rfl, b_codes⟩, ⟨rfl, rfl, b_clauseOf⟩, ⟨rfl, rfl, b_codeFrom⟩, ⟨rfl, rfl, b_codeHalf⟩, ⟨rfl, rfl, b_codeTo⟩, trivial⟩⟩
    · refine ⟨tauL τ cd cf ch ct (nI m), y, tauL_Φ k6, fun t ht => tauL_lo (kT200 ht), rfl, kQ, ?_⟩
      have em : (nI m : Int32) = decA (tauL τ cd cf ch ct (nI m) 200) 0 := tauL_m.symm
      exact ⟨⟨rfl, rfl, rfl, rfl, rfl, rfl, rfl, rfl, rfl, ⟨_, rfl, b_stampMany⟩, rfl, ⟨_, rfl, nr (m := 0) (k := 0) (by omega) (by omega)⟩, ⟨_, rfl, nr (m := 240) k3 (by omega)⟩, ⟨_, rfl, nr (m := 240) k5 (by omega)⟩, topA_ok _, topA_ok _, topA_ok _, ⟨_, rfl, nr (m := 260) k1 (by omega)⟩, ⟨_, rfl, nr (m := 260) k2 (by omega)⟩, ⟨_, rfl, nr (m := 16) k4 (by omega)⟩, gT_mk (t := 200) rfl em ⟨i32lo _, i32hi _⟩, rfl, rfl, rfl, rfl, rfl, rfl, rfl, rfl, rfl, rfl, rfl, rfl, rfl, rfl, rfl, rfl, rfl, ⟨_, rfl, b_newMany⟩, ⟨_, rfl, b_rounds⟩, ⟨_, rfl, b_stampFrom⟩, ⟨_, rfl, b_stampTimes⟩, ⟨_, rfl, b_lines⟩, ⟨_, rfl, b_spot0⟩, ⟨_, rfl, b_pullAcross⟩, ⟨_, rfl, b_pullAlong⟩, ⟨_, rfl, b_stepsNow⟩, ⟨_, rfl, b_fallenNow⟩, rfl, rfl, rfl, rfl, rfl, gT_mk rfl e_isKept b_isKept, trivial⟩, ⟨rfl, rfl, b_tape⟩, ⟨rfl, rfl, of_rg rg_top⟩, ⟨rfl, rfl, of_rg rg_top⟩, ⟨rfl, rfl, of_rg rg_top⟩, ⟨rfl, rfl, of_rg rg_top⟩, ⟨rfl, rfl, of_rg rg_top⟩, ⟨rfl, rfl, of_rg rg_top⟩, ⟨rfl, rfl, of_ex (fun i hi => (encA_ok hi).symm)⟩, ⟨rfl, rfl, of_rg rg_top⟩, ⟨rfl, rfl, of_ex (fun i hi => (encA_ok hi).symm)⟩, ⟨rfl, rfl, of_ex (fun i hi => (encA_ok hi).symm)⟩, ⟨rfl, rfl, of_ex (fun i hi => (encA_ok hi).symm)⟩, trivial⟩
def HX_law200R : List AC := hc_240607c316
def HY_law200R : List AC := hc_a074f70448
set_option maxRecDepth 100000 in
theorem x_law200R {l : Launch} {n : Nat} (h1 : 1 ≤ n ∧ n ≤ 200) : conOkX (MetP l 8 yX12_law cX12_law 4 (some .int) 0 0) [nI n] HX_law200R HY_law200R (fun t => Nat.ble t 200) (fun _ => True) (fun τ τ' y => lwY (ob (fun i => f_and (decA (τ 251) i) 255)) n y) := by
  intro τ hΦ hP h hh
  have z := all2_cons hh
  clear hh
  obtain ⟨e0, h, rfl, g0, hh⟩ := z
  rcases e0 with ⟨t0, n0, f0⟩ | ⟨ci, fs⟩
  · exact g0.elim
  obtain ⟨rfl, gf⟩ := g0
  have z := all2_cons gf
  clear gf
  obtain ⟨v0, fs, rfl, q0, gf⟩ := z
  cases gT_r (τ := τ) (t := 0) (v := v0) rfl q0
  have z := all2_cons gf
  clear gf
  obtain ⟨v0, fs, rfl, q0, gf⟩ := z
  cases gT_r (τ := τ) (t := 1) (v := v0) rfl q0
  have z := all2_cons gf
  clear gf
  obtain ⟨v0, fs, rfl, q0, gf⟩ := z
  cases gT_r (τ := τ) (t := 2) (v := v0) rfl q0
  have z := all2_cons gf
  clear gf
  obtain ⟨v0, fs, rfl, q0, gf⟩ := z
  cases gT_r (τ := τ) (t := 3) (v := v0) rfl q0
  have z := all2_cons gf
  clear gf
  obtain ⟨v0, fs, rfl, q0, gf⟩ := z
  cases gT_r (τ := τ) (t := 4) (v := v0) rfl q0
  have z := all2_cons gf
  clear gf
  obtain ⟨v0, fs, rfl, q0, gf⟩ := z
  cases gT_r (τ := τ) (t := 5) (v := v0) rfl q0
  have z := all2_cons gf
  clear gf
  obtain ⟨v0, fs, rfl, q0, gf⟩ := z
  cases gT_r (τ := τ) (t := 6) (v := v0) rfl q0
  have z := all2_cons gf
  clear gf
  obtain ⟨v0, fs, rfl, q0, gf⟩ := z
  cases gT_r (τ := τ) (t := 7) (v := v0) rfl q0
  have z := all2_cons gf
  clear gf
  obtain ⟨v0, fs, rfl, q0, gf⟩ := z
  obtain ⟨M_stampMany, rfl, b_stampMany⟩ := q0
  have z := all2_cons gf
  clear gf
  obtain ⟨v0, fs, rfl, q0, gf⟩ := z
  cases (q0 : v0 = .inr (some (.inl 1)))
  have z := all2_cons gf
  clear gf
  obtain ⟨v0, fs, rfl, q0, gf⟩ := z
  obtain ⟨M_taped, rfl, b_taped⟩ := q0
  have z := all2_cons gf
  clear gf
  obtain ⟨v0, fs, rfl, q0, gf⟩ := z
  obtain ⟨M_place0, rfl, b_place0⟩ := q0
  have z := all2_cons gf
  clear gf
  obtain ⟨v0, fs, rfl, q0, gf⟩ := z
  obtain ⟨M_length0, rfl, b_length0⟩ := q0
  have z := all2_cons gf
  clear gf
  obtain ⟨v0, fs, rfl, q0, gf⟩ := z
  obtain ⟨M_fault, rfl, b_fault⟩ := q0
  have z := all2_cons gf
  clear gf
  obtain ⟨v0, fs, rfl, q0, gf⟩ := z
  obtain ⟨M_number0, rfl, b_number0⟩ := q0
  have z := all2_cons gf
  clear gf
  obtain ⟨v0, fs, rfl, q0, gf⟩ := z
  obtain ⟨M_open, rfl, b_open⟩ := q0
  have z := all2_cons gf
  clear gf
  obtain ⟨v0, fs, rfl, q0, gf⟩ := z
  obtain ⟨M_codeMany, rfl, b_codeMany⟩ := q0
  have z := all2_cons gf
  clear gf
  obtain ⟨v0, fs, rfl, q0, gf⟩ := z
  obtain ⟨M_waiting, rfl, b_waiting⟩ := q0
  have z := all2_cons gf
  clear gf
  obtain ⟨v0, fs, rfl, q0, gf⟩ := z
  obtain ⟨M_saidMany, rfl, b_saidMany⟩ := q0
  have z := all2_cons gf
  clear gf
  obtain ⟨v0, fs, rfl, q0, gf⟩ := z
  cases gT_i (τ := τ) (t := 200) (v := v0) rfl q0
  have z := all2_cons gf
  clear gf
  obtain ⟨v0, fs, rfl, q0, gf⟩ := z
  cases (q0 : v0 = .inr (some (.inl 2)))
  have z := all2_cons gf
  clear gf
  obtain ⟨v0, fs, rfl, q0, gf⟩ := z
  cases (q0 : v0 = .inr (some (.inl 3)))
  have z := all2_cons gf
  clear gf
  obtain ⟨v0, fs, rfl, q0, gf⟩ := z
  cases (q0 : v0 = .inr (some (.inl 4)))
  have z := all2_cons gf
  clear gf
  obtain ⟨v0, fs, rfl, q0, gf⟩ := z
  cases (q0 : v0 = .inr (some (.inl 5)))
  have z := all2_cons gf
  clear gf
  obtain ⟨v0, fs, rfl, q0, gf⟩ := z
  cases (q0 : v0 = .inr (some (.inl 6)))
  have z := all2_cons gf
  clear gf
  obtain ⟨v0, fs, rfl, q0, gf⟩ := z
  cases (q0 : v0 = .inr (some (.inl 7)))
  have z := all2_cons gf
  clear gf
  obtain ⟨v0, fs, rfl, q0, gf⟩ := z
  cases (q0 : v0 = .inr (some (.inl 8)))
  have z := all2_cons gf
  clear gf
  obtain ⟨v0, fs, rfl, q0, gf⟩ := z
  cases (q0 : v0 = .inr (some (.inl 9)))
  have z := all2_cons gf
  clear gf
  obtain ⟨v0, fs, rfl, q0, gf⟩ := z
  cases (q0 : v0 = .inr (some (.inl 10)))
  have z := all2_cons gf
  clear gf
  obtain ⟨v0, fs, rfl, q0, gf⟩ := z
  cases (q0 : v0 = .inr (some (.inl 11)))
  have z := all2_cons gf
  clear gf
  obtain ⟨v0, fs, rfl, q0, gf⟩ := z
  cases (q0 : v0 = .inr (some (.inl 12)))
  have z := all2_cons gf
  clear gf
  obtain ⟨v0, fs, rfl, q0, gf⟩ := z
  cases gT_r (τ := τ) (t := 8) (v := v0) rfl q0
  have z := all2_cons gf
  clear gf
  obtain ⟨v0, fs, rfl, q0, gf⟩ := z
  cases gT_r (τ := τ) (t := 9) (v := v0) rfl q0
  have z := all2_cons gf
  clear gf
  obtain ⟨v0, fs, rfl, q0, gf⟩ := z
  cases gT_r (τ := τ) (t := 10) (v := v0) rfl q0
  have z := all2_cons gf
  clear gf
  obtain ⟨v0, fs, rfl, q0, gf⟩ := z
  cases gT_r (τ := τ) (t := 11) (v := v0) rfl q0
  have z := all2_cons gf
  clear gf
  obtain ⟨v0, fs, rfl, q0, gf⟩ := z
  cases gT_r (τ := τ) (t := 12) (v := v0) rfl q0
  have z := all2_cons gf
  clear gf
  obtain ⟨v0, fs, rfl, q0, gf⟩ := z
  cases gT_r (τ := τ) (t := 13) (v := v0) rfl q0
  have z := all2_cons gf
  clear gf
  obtain ⟨v0, fs, rfl, q0, gf⟩ := z
  obtain ⟨M_newMany, rfl, b_newMany⟩ := q0
  have z := all2_cons gf
  clear gf
  obtain ⟨v0, fs, rfl, q0, gf⟩ := z
  obtain ⟨M_rounds, rfl, b_rounds⟩ := q0
  have z := all2_cons gf
  clear gf
  obtain ⟨v0, fs, rfl, q0, gf⟩ := z
  obtain ⟨M_stampFrom, rfl, b_stampFrom⟩ := q0
  have z := all2_cons gf
  clear gf
  obtain ⟨v0, fs, rfl, q0, gf⟩ := z
  obtain ⟨M_stampTimes, rfl, b_stampTimes⟩ := q0
  have z := all2_cons gf
  clear gf
  obtain ⟨v0, fs, rfl, q0, gf⟩ := z
  obtain ⟨M_lines, rfl, b_lines⟩ := q0
  have z := all2_cons gf
  clear gf
  obtain ⟨v0, fs, rfl, q0, gf⟩ := z
  obtain ⟨M_spot0, rfl, b_spot0⟩ := q0
  have z := all2_cons gf
  clear gf
  obtain ⟨v0, fs, rfl, q0, gf⟩ := z
  obtain ⟨M_pullAcross, rfl, b_pullAcross⟩ := q0
  have z := all2_cons gf
  clear gf
  obtain ⟨v0, fs, rfl, q0, gf⟩ := z
  obtain ⟨M_pullAlong, rfl, b_pullAlong⟩ := q0
  have z := all2_cons gf
  clear gf
  obtain ⟨v0, fs, rfl, q0, gf⟩ := z
  obtain ⟨M_stepsNow, rfl, b_stepsNow⟩ := q0
  have z := all2_cons gf
  clear gf
  obtain ⟨v0, fs, rfl, q0, gf⟩ := z
  obtain ⟨M_fallenNow, rfl, b_fallenNow⟩ := q0
  have z := all2_cons gf
  clear gf
  obtain ⟨v0, fs, rfl, q0, gf⟩ := z
  cases gT_r (τ := τ) (t := 14) (v := v0) rfl q0
  have z := all2_cons gf
  clear gf
  obtain ⟨v0, fs, rfl, q0, gf⟩ := z
  cases gT_r (τ := τ) (t := 15) (v := v0) rfl q0
  have z := all2_cons gf
  clear gf
  obtain ⟨v0, fs, rfl, q0, gf⟩ := z
  cases gT_r (τ := τ) (t := 16) (v := v0) rfl q0
  have z := all2_cons gf
  clear gf
  obtain ⟨v0, fs, rfl, q0, gf⟩ := z
  cases gT_r (τ := τ) (t := 17) (v := v0) rfl q0
  have z := all2_cons gf
  clear gf
  obtain ⟨v0, fs, rfl, q0, gf⟩ := z
  cases gT_r (τ := τ) (t := 18) (v := v0) rfl q0
  have z := all2_cons gf
  clear gf
  obtain ⟨v0, fs, rfl, q0, gf⟩ := z
  obtain ⟨M_isKept, rfl, e_isKept, b_isKept⟩ := gT_x (τ := τ) (t := 201) (v := v0) rfl q0
  cases fs with
  | cons _ _ => exact gf.elim
  | nil =>
    have z := all2_cons hh
    clear hh
    obtain ⟨e1, h, rfl, g1, hh⟩ := z
    rcases e1 with ⟨t1, n1, M_tape⟩ | ⟨ci, fs⟩
    rotate_left
    · exact g1.elim
    obtain ⟨et, en, b_tape⟩ := g1
    cases (et : t1 = 1)
    cases en
    have z := all2_cons hh
    clear hh
    obtain ⟨e1, h, rfl, g1, hh⟩ := z
    rcases e1 with ⟨t1, n1, M_said⟩ | ⟨ci, fs⟩
    rotate_left
    · exact g1.elim
    obtain ⟨et, en, b_said⟩ := g1
    cases (et : t1 = 0)
    cases en
    have z := all2_cons hh
    clear hh
    obtain ⟨e1, h, rfl, g1, hh⟩ := z
    rcases e1 with ⟨t1, n1, M_waitsAt⟩ | ⟨ci, fs⟩
    rotate_left
    · exact g1.elim
    obtain ⟨et, en, b_waitsAt⟩ := g1
    cases (et : t1 = 0)
    cases en
    have z := all2_cons hh
    clear hh
    obtain ⟨e1, h, rfl, g1, hh⟩ := z
    rcases e1 with ⟨t1, n1, M_saidLetter⟩ | ⟨ci, fs⟩
    rotate_left
    · exact g1.elim
    obtain ⟨et, en, b_saidLetter⟩ := g1
    cases (et : t1 = 0)
    cases en
    have z := all2_cons hh
    clear hh
    obtain ⟨e1, h, rfl, g1, hh⟩ := z
    rcases e1 with ⟨t1, n1, M_saidFrom⟩ | ⟨ci, fs⟩
    rotate_left
    · exact g1.elim
    obtain ⟨et, en, b_saidFrom⟩ := g1
    cases (et : t1 = 0)
    cases en
    have z := all2_cons hh
    clear hh
    obtain ⟨e1, h, rfl, g1, hh⟩ := z
    rcases e1 with ⟨t1, n1, M_saidHalf⟩ | ⟨ci, fs⟩
    rotate_left
    · exact g1.elim
    obtain ⟨et, en, b_saidHalf⟩ := g1
    cases (et : t1 = 0)
    cases en
    have z := all2_cons hh
    clear hh
    obtain ⟨e1, h, rfl, g1, hh⟩ := z
    rcases e1 with ⟨t1, n1, M_saidTo⟩ | ⟨ci, fs⟩
    rotate_left
    · exact g1.elim
    obtain ⟨et, en, b_saidTo⟩ := g1
    cases (et : t1 = 0)
    cases en
    have z := all2_cons hh
    clear hh
    obtain ⟨e1, h, rfl, g1, hh⟩ := z
    rcases e1 with ⟨t1, n1, M_codes⟩ | ⟨ci, fs⟩
    rotate_left
    · exact g1.elim
    obtain ⟨et, en, b_codes⟩ := g1
    cases (et : t1 = 0)
    cases en
    have z := all2_cons hh
    clear hh
    obtain ⟨e1, h, rfl, g1, hh⟩ := z
    rcases e1 with ⟨t1, n1, M_clauseOf⟩ | ⟨ci, fs⟩
    rotate_left
    · exact g1.elim
    obtain ⟨et, en, b_clauseOf⟩ := g1
    cases (et : t1 = 0)
    cases en
    have z := all2_cons hh
    clear hh
    obtain ⟨e1, h, rfl, g1, hh⟩ := z
    rcases e1 with ⟨t1, n1, M_codeFrom⟩ | ⟨ci, fs⟩
    rotate_left
    · exact g1.elim
    obtain ⟨et, en, b_codeFrom⟩ := g1
    cases (et : t1 = 0)
    cases en
    have z := all2_cons hh
    clear hh
    obtain ⟨e1, h, rfl, g1, hh⟩ := z
    rcases e1 with ⟨t1, n1, M_codeHalf⟩ | ⟨ci, fs⟩
    rotate_left
    · exact g1.elim
    obtain ⟨et, en, b_codeHalf⟩ := g1
    cases (et : t1 = 0)
    cases en
    have z := all2_cons hh
    clear hh
    obtain ⟨e1, h, rfl, g1, hh⟩ := z
    rcases e1 with ⟨t1, n1, M_codeTo⟩ | ⟨ci, fs⟩
    rotate_left
    · exact g1.elim
    obtain ⟨et, en, b_codeTo⟩ := g1
    cases (et : t1 = 0)
    cases en
    cases h with
    | cons _ _ => exact hh.elim
    | nil =>
    obtain ⟨t0, ht0, rfl⟩ := rng_n (x := M_waiting) (k := 260) b_waiting.1 b_waiting.2
    obtain ⟨s, hs, rfl⟩ := rng_n (x := M_taped) (k := 260) (by omega) b_taped.2
    have es := sz_n (c := s) (by omega)
    obtain ⟨rF, eF⟩ := rg_x rfl b_tape
    have k5 : n ≤ 240 := by omega
    refine (z_X12_law (b := ob (fun i => f_and (decA (τ 251) i) 255)) (n := n) (t0 := t0) (tn := s) h1.1 k5 (by omega) ht0 hs (fun i hi => ob_ok (f := fun i => f_and (decA (τ 251) i) 255) (F := fun i => f_and (M_tape i) 255) (by omega) (by show f_and (M_tape i) 255 = f_and (decA (τ 251) i) 255; rw [eF i (by omega)]) oct_rng)).mono (fun r h' hp => ?_)
    rcases hp with ⟨y, sd, wt, sl, sf, sh, st, c', t', p', m, v, o, f, rfl, kQ, k1, k2, k3, k4, rfl⟩ | ⟨y, sd, wt, sl, sf, sh, st, cd, co, cf, ch, ct, c', t', p', m, v, o, f, rfl, kQ, k1, k2, k3, k4, k6, rfl⟩
    · exact ⟨τ, y, hΦ, fun _ _ => rfl, rfl, kQ, ⟨⟨rfl, rfl, rfl, rfl, rfl, rfl, rfl, rfl, rfl, ⟨_, rfl, b_stampMany⟩, rfl, ⟨_, rfl, nr (m := 0) (k := 0) (by omega) (by omega)⟩, ⟨_, rfl, nr (m := 240) k3 (by omega)⟩, ⟨_, rfl, nr (m := 240) k5 (by omega)⟩, topA_ok _, topA_ok _, topA_ok _, ⟨_, rfl, nr (m := 260) k1 (by omega)⟩, ⟨_, rfl, nr (m := 260) k2 (by omega)⟩, ⟨_, rfl, nr (m := 16) k4 (by omega)⟩, gT_mk (t := 200) rfl rfl ⟨i32lo _, i32hi _⟩, rfl, rfl, rfl, rfl, rfl, rfl, rfl, rfl, rfl, rfl, rfl, rfl, rfl, rfl, rfl, rfl, rfl, ⟨_, rfl, b_newMany⟩, ⟨_, rfl, b_rounds⟩, ⟨_, rfl, b_stampFrom⟩, ⟨_, rfl, b_stampTimes⟩, ⟨_, rfl, b_lines⟩, ⟨_, rfl, b_spot0⟩, ⟨_, rfl, b_pullAcross⟩, ⟨_, rfl, b_pullAlong⟩, ⟨_, rfl, b_stepsNow⟩, ⟨_, rfl, b_fallenNow⟩, rfl, rfl, rfl, rfl, rfl, gT_mk rfl e_isKept b_isKept, trivial⟩, ⟨rfl, rfl, b_tape⟩, ⟨rfl, rfl, of_rg rg_top⟩, ⟨rfl, rfl, of_rg rg_top⟩, ⟨rfl, rfl, of_rg rg_top⟩, ⟨rfl, rfl, of_rg rg_top⟩, ⟨rfl, rfl, of_rg rg_top⟩, ⟨rfl, rfl, of_rg rg_top⟩, ⟨rfl, rfl, b_codes⟩, ⟨rfl, rfl, b_clauseOf⟩, ⟨rfl, rfl, b_codeFrom⟩, ⟨rfl, rfl, b_codeHalf⟩, ⟨rfl, rfl, b_codeTo⟩, trivial⟩⟩
    · refine ⟨tauL τ cd cf ch ct (nI m), y, tauL_Φ k6, fun t ht => tauL_lo (kT200 ht), rfl, kQ, ?_⟩
      have em : (nI m : Int32) = decA (tauL τ cd cf ch ct (nI m) 200) 0 := tauL_m.symm
      exact ⟨⟨rfl, rfl, rfl, rfl, rfl, rfl, rfl, rfl, rfl, ⟨_, rfl, b_stampMany⟩, rfl, ⟨_, rfl, nr (m := 0) (k := 0) (by omega) (by omega)⟩, ⟨_, rfl, nr (m := 240) k3 (by omega)⟩, ⟨_, rfl, nr (m := 240) k5 (by omega)⟩, topA_ok _, topA_ok _, topA_ok _, ⟨_, rfl, nr (m := 260) k1 (by omega)⟩, ⟨_, rfl, nr (m := 260) k2 (by omega)⟩, ⟨_, rfl, nr (m := 16) k4 (by omega)⟩, gT_mk (t := 200) rfl em ⟨i32lo _, i32hi _⟩, rfl, rfl, rfl, rfl, rfl, rfl, rfl, rfl, rfl, rfl, rfl, rfl, rfl, rfl, rfl, rfl, rfl, ⟨_, rfl, b_newMany⟩, ⟨_, rfl, b_rounds⟩, ⟨_, rfl, b_stampFrom⟩, ⟨_, rfl, b_stampTimes⟩, ⟨_, rfl, b_lines⟩, ⟨_, rfl, b_spot0⟩, ⟨_, rfl, b_pullAcross⟩, ⟨_, rfl, b_pullAlong⟩, ⟨_, rfl, b_stepsNow⟩, ⟨_, rfl, b_fallenNow⟩, rfl, rfl, rfl, rfl, rfl, gT_mk rfl e_isKept b_isKept, trivial⟩, ⟨rfl, rfl, b_tape⟩, ⟨rfl, rfl, of_rg rg_top⟩, ⟨rfl, rfl, of_rg rg_top⟩, ⟨rfl, rfl, of_rg rg_top⟩, ⟨rfl, rfl, of_rg rg_top⟩, ⟨rfl, rfl, of_rg rg_top⟩, ⟨rfl, rfl, of_rg rg_top⟩, ⟨rfl, rfl, of_ex (fun i hi => (encA_ok hi).symm)⟩, ⟨rfl, rfl, of_rg rg_top⟩, ⟨rfl, rfl, of_ex (fun i hi => (encA_ok hi).symm)⟩, ⟨rfl, rfl, of_ex (fun i hi => (encA_ok hi).symm)⟩, ⟨rfl, rfl, of_ex (fun i hi => (encA_ok hi).symm)⟩, trivial⟩
def HX_law220R : List AC := hc_7458503c40
def HY_law220R : List AC := hc_a074f70448
set_option maxRecDepth 100000 in
theorem x_law220R {l : Launch} {n : Nat} (h1 : 1 ≤ n ∧ n ≤ 220) : conOkX (MetP l 8 yX12_law cX12_law 4 (some .int) 0 0) [nI n] HX_law220R HY_law220R (fun t => Nat.ble t 200) (fun _ => True) (fun τ τ' y => lwY (ob (fun i => f_and (decA (τ 251) i) 255)) n y) := by
  intro τ hΦ hP h hh
  have z := all2_cons hh
  clear hh
  obtain ⟨e0, h, rfl, g0, hh⟩ := z
  rcases e0 with ⟨t0, n0, f0⟩ | ⟨ci, fs⟩
  · exact g0.elim
  obtain ⟨rfl, gf⟩ := g0
  have z := all2_cons gf
  clear gf
  obtain ⟨v0, fs, rfl, q0, gf⟩ := z
  cases gT_r (τ := τ) (t := 0) (v := v0) rfl q0
  have z := all2_cons gf
  clear gf
  obtain ⟨v0, fs, rfl, q0, gf⟩ := z
  cases gT_r (τ := τ) (t := 1) (v := v0) rfl q0
  have z := all2_cons gf
  clear gf
  obtain ⟨v0, fs, rfl, q0, gf⟩ := z
  cases gT_r (τ := τ) (t := 2) (v := v0) rfl q0
  have z := all2_cons gf
  clear gf
  obtain ⟨v0, fs, rfl, q0, gf⟩ := z
  cases gT_r (τ := τ) (t := 3) (v := v0) rfl q0
  have z := all2_cons gf
  clear gf
  obtain ⟨v0, fs, rfl, q0, gf⟩ := z
  cases gT_r (τ := τ) (t := 4) (v := v0) rfl q0
  have z := all2_cons gf
  clear gf
  obtain ⟨v0, fs, rfl, q0, gf⟩ := z
  cases gT_r (τ := τ) (t := 5) (v := v0) rfl q0
  have z := all2_cons gf
  clear gf
  obtain ⟨v0, fs, rfl, q0, gf⟩ := z
  cases gT_r (τ := τ) (t := 6) (v := v0) rfl q0
  have z := all2_cons gf
  clear gf
  obtain ⟨v0, fs, rfl, q0, gf⟩ := z
  cases gT_r (τ := τ) (t := 7) (v := v0) rfl q0
  have z := all2_cons gf
  clear gf
  obtain ⟨v0, fs, rfl, q0, gf⟩ := z
  obtain ⟨M_stampMany, rfl, b_stampMany⟩ := q0
  have z := all2_cons gf
  clear gf
  obtain ⟨v0, fs, rfl, q0, gf⟩ := z
  cases (q0 : v0 = .inr (some (.inl 1)))
  have z := all2_cons gf
  clear gf
  obtain ⟨v0, fs, rfl, q0, gf⟩ := z
  obtain ⟨M_taped, rfl, b_taped⟩ := q0
  have z := all2_cons gf
  clear gf
  obtain ⟨v0, fs, rfl, q0, gf⟩ := z
  obtain ⟨M_place0, rfl, b_place0⟩ := q0
  have z := all2_cons gf
  clear gf
  obtain ⟨v0, fs, rfl, q0, gf⟩ := z
  obtain ⟨M_length0, rfl, b_length0⟩ := q0
  have z := all2_cons gf
  clear gf
  obtain ⟨v0, fs, rfl, q0, gf⟩ := z
  obtain ⟨M_fault, rfl, b_fault⟩ := q0
  have z := all2_cons gf
  clear gf
  obtain ⟨v0, fs, rfl, q0, gf⟩ := z
  obtain ⟨M_number0, rfl, b_number0⟩ := q0
  have z := all2_cons gf
  clear gf
  obtain ⟨v0, fs, rfl, q0, gf⟩ := z
  obtain ⟨M_open, rfl, b_open⟩ := q0
  have z := all2_cons gf
  clear gf
  obtain ⟨v0, fs, rfl, q0, gf⟩ := z
  obtain ⟨M_codeMany, rfl, b_codeMany⟩ := q0
  have z := all2_cons gf
  clear gf
  obtain ⟨v0, fs, rfl, q0, gf⟩ := z
  obtain ⟨M_waiting, rfl, b_waiting⟩ := q0
  have z := all2_cons gf
  clear gf
  obtain ⟨v0, fs, rfl, q0, gf⟩ := z
  obtain ⟨M_saidMany, rfl, b_saidMany⟩ := q0
  have z := all2_cons gf
  clear gf
  obtain ⟨v0, fs, rfl, q0, gf⟩ := z
  cases gT_i (τ := τ) (t := 200) (v := v0) rfl q0
  have z := all2_cons gf
  clear gf
  obtain ⟨v0, fs, rfl, q0, gf⟩ := z
  cases (q0 : v0 = .inr (some (.inl 2)))
  have z := all2_cons gf
  clear gf
  obtain ⟨v0, fs, rfl, q0, gf⟩ := z
  cases (q0 : v0 = .inr (some (.inl 3)))
  have z := all2_cons gf
  clear gf
  obtain ⟨v0, fs, rfl, q0, gf⟩ := z
  cases (q0 : v0 = .inr (some (.inl 4)))
  have z := all2_cons gf
  clear gf
  obtain ⟨v0, fs, rfl, q0, gf⟩ := z
  cases (q0 : v0 = .inr (some (.inl 5)))
  have z := all2_cons gf
  clear gf
  obtain ⟨v0, fs, rfl, q0, gf⟩ := z
  cases (q0 : v0 = .inr (some (.inl 6)))
  have z := all2_cons gf
  clear gf
  obtain ⟨v0, fs, rfl, q0, gf⟩ := z
  cases (q0 : v0 = .inr (some (.inl 7)))
  have z := all2_cons gf
  clear gf
  obtain ⟨v0, fs, rfl, q0, gf⟩ := z
  cases (q0 : v0 = .inr (some (.inl 8)))
  have z := all2_cons gf
  clear gf
  obtain ⟨v0, fs, rfl, q0, gf⟩ := z
  cases (q0 : v0 = .inr (some (.inl 9)))
  have z := all2_cons gf
  clear gf
  obtain ⟨v0, fs, rfl, q0, gf⟩ := z
  cases (q0 : v0 = .inr (some (.inl 10)))
  have z := all2_cons gf
  clear gf
  obtain ⟨v0, fs, rfl, q0, gf⟩ := z
  cases (q0 : v0 = .inr (some (.inl 11)))
  have z := all2_cons gf
  clear gf
  obtain ⟨v0, fs, rfl, q0, gf⟩ := z
  cases (q0 : v0 = .inr (some (.inl 12)))
  have z := all2_cons gf
  clear gf
  obtain ⟨v0, fs, rfl, q0, gf⟩ := z
  cases gT_r (τ := τ) (t := 8) (v := v0) rfl q0
  have z := all2_cons gf
  clear gf
  obtain ⟨v0, fs, rfl, q0, gf⟩ := z
  cases gT_r (τ := τ) (t := 9) (v := v0) rfl q0
  have z := all2_cons gf
  clear gf
  obtain ⟨v0, fs, rfl, q0, gf⟩ := z
  cases gT_r (τ := τ) (t := 10) (v := v0) rfl q0
  have z := all2_cons gf
  clear gf
  obtain ⟨v0, fs, rfl, q0, gf⟩ := z
  cases gT_r (τ := τ) (t := 11) (v := v0) rfl q0
  have z := all2_cons gf
  clear gf
  obtain ⟨v0, fs, rfl, q0, gf⟩ := z
  cases gT_r (τ := τ) (t := 12) (v := v0) rfl q0
  have z := all2_cons gf
  clear gf
  obtain ⟨v0, fs, rfl, q0, gf⟩ := z
  cases gT_r (τ := τ) (t := 13) (v := v0) rfl q0
  have z := all2_cons gf
  clear gf
  obtain ⟨v0, fs, rfl, q0, gf⟩ := z
  obtain ⟨M_newMany, rfl, b_newMany⟩ := q0
  have z := all2_cons gf
  clear gf
  obtain ⟨v0, fs, rfl, q0, gf⟩ := z
  obtain ⟨M_rounds, rfl, b_rounds⟩ := q0
  have z := all2_cons gf
  clear gf
  obtain ⟨v0, fs, rfl, q0, gf⟩ := z
  obtain ⟨M_stampFrom, rfl, b_stampFrom⟩ := q0
  have z := all2_cons gf
  clear gf
  obtain ⟨v0, fs, rfl, q0, gf⟩ := z
  obtain ⟨M_stampTimes, rfl, b_stampTimes⟩ := q0
  have z := all2_cons gf
  clear gf
  obtain ⟨v0, fs, rfl, q0, gf⟩ := z
  obtain ⟨M_lines, rfl, b_lines⟩ := q0
  have z := all2_cons gf
  clear gf
  obtain ⟨v0, fs, rfl, q0, gf⟩ := z
  obtain ⟨M_spot0, rfl, b_spot0⟩ := q0
  have z := all2_cons gf
  clear gf
  obtain ⟨v0, fs, rfl, q0, gf⟩ := z
  obtain ⟨M_pullAcross, rfl, b_pullAcross⟩ := q0
  have z := all2_cons gf
  clear gf
  obtain ⟨v0, fs, rfl, q0, gf⟩ := z
  obtain ⟨M_pullAlong, rfl, b_pullAlong⟩ := q0
  have z := all2_cons gf
  clear gf
  obtain ⟨v0, fs, rfl, q0, gf⟩ := z
  obtain ⟨M_stepsNow, rfl, b_stepsNow⟩ := q0
  have z := all2_cons gf
  clear gf
  obtain ⟨v0, fs, rfl, q0, gf⟩ := z
  obtain ⟨M_fallenNow, rfl, b_fallenNow⟩ := q0
  have z := all2_cons gf
  clear gf
  obtain ⟨v0, fs, rfl, q0, gf⟩ := z
  cases gT_r (τ := τ) (t := 14) (v := v0) rfl q0
  have z := all2_cons gf
  clear gf
  obtain ⟨v0, fs, rfl, q0, gf⟩ := z
  cases gT_r (τ := τ) (t := 15) (v := v0) rfl q0
  have z := all2_cons gf
  clear gf
  obtain ⟨v0, fs, rfl, q0, gf⟩ := z
  cases gT_r (τ := τ) (t := 16) (v := v0) rfl q0
  have z := all2_cons gf
  clear gf
  obtain ⟨v0, fs, rfl, q0, gf⟩ := z
  cases gT_r (τ := τ) (t := 17) (v := v0) rfl q0
  have z := all2_cons gf
  clear gf
  obtain ⟨v0, fs, rfl, q0, gf⟩ := z
  cases gT_r (τ := τ) (t := 18) (v := v0) rfl q0
  have z := all2_cons gf
  clear gf
  obtain ⟨v0, fs, rfl, q0, gf⟩ := z
  obtain ⟨M_isKept, rfl, e_isKept, b_isKept⟩ := gT_x (τ := τ) (t := 201) (v := v0) rfl q0
  cases fs with
  | cons _ _ => exact gf.elim
  | nil =>
    have z := all2_cons hh
    clear hh
    obtain ⟨e1, h, rfl, g1, hh⟩ := z
    rcases e1 with ⟨t1, n1, M_tape⟩ | ⟨ci, fs⟩
    rotate_left
    · exact g1.elim
    obtain ⟨et, en, b_tape⟩ := g1
    cases (et : t1 = 1)
    cases en
    have z := all2_cons hh
    clear hh
    obtain ⟨e1, h, rfl, g1, hh⟩ := z
    rcases e1 with ⟨t1, n1, M_said⟩ | ⟨ci, fs⟩
    rotate_left
    · exact g1.elim
    obtain ⟨et, en, b_said⟩ := g1
    cases (et : t1 = 0)
    cases en
    have z := all2_cons hh
    clear hh
    obtain ⟨e1, h, rfl, g1, hh⟩ := z
    rcases e1 with ⟨t1, n1, M_waitsAt⟩ | ⟨ci, fs⟩
    rotate_left
    · exact g1.elim
    obtain ⟨et, en, b_waitsAt⟩ := g1
    cases (et : t1 = 0)
    cases en
    have z := all2_cons hh
    clear hh
    obtain ⟨e1, h, rfl, g1, hh⟩ := z
    rcases e1 with ⟨t1, n1, M_saidLetter⟩ | ⟨ci, fs⟩
    rotate_left
    · exact g1.elim
    obtain ⟨et, en, b_saidLetter⟩ := g1
    cases (et : t1 = 0)
    cases en
    have z := all2_cons hh
    clear hh
    obtain ⟨e1, h, rfl, g1, hh⟩ := z
    rcases e1 with ⟨t1, n1, M_saidFrom⟩ | ⟨ci, fs⟩
    rotate_left
    · exact g1.elim
    obtain ⟨et, en, b_saidFrom⟩ := g1
    cases (et : t1 = 0)
    cases en
    have z := all2_cons hh
    clear hh
    obtain ⟨e1, h, rfl, g1, hh⟩ := z
    rcases e1 with ⟨t1, n1, M_saidHalf⟩ | ⟨ci, fs⟩
    rotate_left
    · exact g1.elim
    obtain ⟨et, en, b_saidHalf⟩ := g1
    cases (et : t1 = 0)
    cases en
    have z := all2_cons hh
    clear hh
    obtain ⟨e1, h, rfl, g1, hh⟩ := z
    rcases e1 with ⟨t1, n1, M_saidTo⟩ | ⟨ci, fs⟩
    rotate_left
    · exact g1.elim
    obtain ⟨et, en, b_saidTo⟩ := g1
    cases (et : t1 = 0)
    cases en
    have z := all2_cons hh
    clear hh
    obtain ⟨e1, h, rfl, g1, hh⟩ := z
    rcases e1 with ⟨t1, n1, M_codes⟩ | ⟨ci, fs⟩
    rotate_left
    · exact g1.elim
    obtain ⟨et, en, b_codes⟩ := g1
    cases (et : t1 = 0)
    cases en
    have z := all2_cons hh
    clear hh
    obtain ⟨e1, h, rfl, g1, hh⟩ := z
    rcases e1 with ⟨t1, n1, M_clauseOf⟩ | ⟨ci, fs⟩
    rotate_left
    · exact g1.elim
    obtain ⟨et, en, b_clauseOf⟩ := g1
    cases (et : t1 = 0)
    cases en
    have z := all2_cons hh
    clear hh
    obtain ⟨e1, h, rfl, g1, hh⟩ := z
    rcases e1 with ⟨t1, n1, M_codeFrom⟩ | ⟨ci, fs⟩
    rotate_left
    · exact g1.elim
    obtain ⟨et, en, b_codeFrom⟩ := g1
    cases (et : t1 = 0)
    cases en
    have z := all2_cons hh
    clear hh
    obtain ⟨e1, h, rfl, g1, hh⟩ := z
    rcases e1 with ⟨t1, n1, M_codeHalf⟩ | ⟨ci, fs⟩
    rotate_left
    · exact g1.elim
    obtain ⟨et, en, b_codeHalf⟩ := g1
    cases (et : t1 = 0)
    cases en
    have z := all2_cons hh
    clear hh
    obtain ⟨e1, h, rfl, g1, hh⟩ := z
    rcases e1 with ⟨t1, n1, M_codeTo⟩ | ⟨ci, fs⟩
    rotate_left
    · exact g1.elim
    obtain ⟨et, en, b_codeTo⟩ := g1
    cases (et : t1 = 0)
    cases en
    cases h with
    | cons _ _ => exact hh.elim
    | nil =>
    obtain ⟨t0, ht0, rfl⟩ := rng_n (x := M_waiting) (k := 260) b_waiting.1 b_waiting.2
    obtain ⟨s, hs, rfl⟩ := rng_n (x := M_taped) (k := 260) (by omega) b_taped.2
    have es := sz_n (c := s) (by omega)
    obtain ⟨rF, eF⟩ := rg_x rfl b_tape
    have k5 : n ≤ 240 := by omega
    refine (z_X12_law (b := ob (fun i => f_and (decA (τ 251) i) 255)) (n := n) (t0 := t0) (tn := s) h1.1 k5 (by omega) ht0 hs (fun i hi => ob_ok (f := fun i => f_and (decA (τ 251) i) 255) (F := fun i => f_and (M_tape i) 255) (by omega) (by show f_and (M_tape i) 255 = f_and (decA (τ 251) i) 255; rw [eF i (by omega)]) oct_rng)).mono (fun r h' hp => ?_)
    rcases hp with ⟨y, sd, wt, sl, sf, sh, st, c', t', p', m, v, o, f, rfl, kQ, k1, k2, k3, k4, rfl⟩ | ⟨y, sd, wt, sl, sf, sh, st, cd, co, cf, ch, ct, c', t', p', m, v, o, f, rfl, kQ, k1, k2, k3, k4, k6, rfl⟩
    · exact ⟨τ, y, hΦ, fun _ _ => rfl, rfl, kQ, ⟨⟨rfl, rfl, rfl, rfl, rfl, rfl, rfl, rfl, rfl, ⟨_, rfl, b_stampMany⟩, rfl, ⟨_, rfl, nr (m := 0) (k := 0) (by omega) (by omega)⟩, ⟨_, rfl, nr (m := 240) k3 (by omega)⟩, ⟨_, rfl, nr (m := 240) k5 (by omega)⟩, topA_ok _, topA_ok _, topA_ok _, ⟨_, rfl, nr (m := 260) k1 (by omega)⟩, ⟨_, rfl, nr (m := 260) k2 (by omega)⟩, ⟨_, rfl, nr (m := 16) k4 (by omega)⟩, gT_mk (t := 200) rfl rfl ⟨i32lo _, i32hi _⟩, rfl, rfl, rfl, rfl, rfl, rfl, rfl, rfl, rfl, rfl, rfl, rfl, rfl, rfl, rfl, rfl, rfl, ⟨_, rfl, b_newMany⟩, ⟨_, rfl, b_rounds⟩, ⟨_, rfl, b_stampFrom⟩, ⟨_, rfl, b_stampTimes⟩, ⟨_, rfl, b_lines⟩, ⟨_, rfl, b_spot0⟩, ⟨_, rfl, b_pullAcross⟩, ⟨_, rfl, b_pullAlong⟩, ⟨_, rfl, b_stepsNow⟩, ⟨_, rfl, b_fallenNow⟩, rfl, rfl, rfl, rfl, rfl, gT_mk rfl e_isKept b_isKept, trivial⟩, ⟨rfl, rfl, b_tape⟩, ⟨rfl, rfl, of_rg rg_top⟩, ⟨rfl, rfl, of_rg rg_top⟩, ⟨rfl, rfl, of_rg rg_top⟩, ⟨rfl, rfl, of_rg rg_top⟩, ⟨rfl, rfl, of_rg rg_top⟩, ⟨rfl, rfl, of_rg rg_top⟩, ⟨rfl, rfl, b_codes⟩, ⟨rfl, rfl, b_clauseOf⟩, ⟨rfl, rfl, b_codeFrom⟩, ⟨rfl, rfl, b_codeHalf⟩, ⟨rfl, rfl, b_codeTo⟩, trivial⟩⟩
    · refine ⟨tauL τ cd cf ch ct (nI m), y, tauL_Φ k6, fun t ht => tauL_lo (kT200 ht), rfl, kQ, ?_⟩
      have em : (nI m : Int32) = decA (tauL τ cd cf ch ct (nI m) 200) 0 := tauL_m.symm
      exact ⟨⟨rfl, rfl, rfl, rfl, rfl, rfl, rfl, rfl, rfl, ⟨_, rfl, b_stampMany⟩, rfl, ⟨_, rfl, nr (m := 0) (k := 0) (by omega) (by omega)⟩, ⟨_, rfl, nr (m := 240) k3 (by omega)⟩, ⟨_, rfl, nr (m := 240) k5 (by omega)⟩, topA_ok _, topA_ok _, topA_ok _, ⟨_, rfl, nr (m := 260) k1 (by omega)⟩, ⟨_, rfl, nr (m := 260) k2 (by omega)⟩, ⟨_, rfl, nr (m := 16) k4 (by omega)⟩, gT_mk (t := 200) rfl em ⟨i32lo _, i32hi _⟩, rfl, rfl, rfl, rfl, rfl, rfl, rfl, rfl, rfl, rfl, rfl, rfl, rfl, rfl, rfl, rfl, rfl, ⟨_, rfl, b_newMany⟩, ⟨_, rfl, b_rounds⟩, ⟨_, rfl, b_stampFrom⟩, ⟨_, rfl, b_stampTimes⟩, ⟨_, rfl, b_lines⟩, ⟨_, rfl, b_spot0⟩, ⟨_, rfl, b_pullAcross⟩, ⟨_, rfl, b_pullAlong⟩, ⟨_, rfl, b_stepsNow⟩, ⟨_, rfl, b_fallenNow⟩, rfl, rfl, rfl, rfl, rfl, gT_mk rfl e_isKept b_isKept, trivial⟩, ⟨rfl, rfl, b_tape⟩, ⟨rfl, rfl, of_rg rg_top⟩, ⟨rfl, rfl, of_rg rg_top⟩, ⟨rfl, rfl, of_rg rg_top⟩, ⟨rfl, rfl, of_rg rg_top⟩, ⟨rfl, rfl, of_rg rg_top⟩, ⟨rfl, rfl, of_rg rg_top⟩, ⟨rfl, rfl, of_ex (fun i hi => (encA_ok hi).symm)⟩, ⟨rfl, rfl, of_rg rg_top⟩, ⟨rfl, rfl, of_ex (fun i hi => (encA_ok hi).symm)⟩, ⟨rfl, rfl, of_ex (fun i hi => (encA_ok hi).symm)⟩, ⟨rfl, rfl, of_ex (fun i hi => (encA_ok hi).symm)⟩, trivial⟩
def HX_law240R : List AC := hc_d9fbe7b667
def HY_law240R : List AC := hc_a074f70448
set_option maxRecDepth 100000 in
theorem x_law240R {l : Launch} {n : Nat} (h1 : 1 ≤ n ∧ n ≤ 240) : conOkX (MetP l 8 yX12_law cX12_law 4 (some .int) 0 0) [nI n] HX_law240R HY_law240R (fun t => Nat.ble t 200) (fun _ => True) (fun τ τ' y => lwY (ob (fun i => f_and (decA (τ 251) i) 255)) n y) := by
  intro τ hΦ hP h hh
  have z := all2_cons hh
  clear hh
  obtain ⟨e0, h, rfl, g0, hh⟩ := z
  rcases e0 with ⟨t0, n0, f0⟩ | ⟨ci, fs⟩
  · exact g0.elim
  obtain ⟨rfl, gf⟩ := g0
  have z := all2_cons gf
  clear gf
  obtain ⟨v0, fs, rfl, q0, gf⟩ := z
  cases gT_r (τ := τ) (t := 0) (v := v0) rfl q0
  have z := all2_cons gf
  clear gf
  obtain ⟨v0, fs, rfl, q0, gf⟩ := z
  cases gT_r (τ := τ) (t := 1) (v := v0) rfl q0
  have z := all2_cons gf
  clear gf
  obtain ⟨v0, fs, rfl, q0, gf⟩ := z
  cases gT_r (τ := τ) (t := 2) (v := v0) rfl q0
  have z := all2_cons gf
  clear gf
  obtain ⟨v0, fs, rfl, q0, gf⟩ := z
  cases gT_r (τ := τ) (t := 3) (v := v0) rfl q0
  have z := all2_cons gf
  clear gf
  obtain ⟨v0, fs, rfl, q0, gf⟩ := z
  cases gT_r (τ := τ) (t := 4) (v := v0) rfl q0
  have z := all2_cons gf
  clear gf
  obtain ⟨v0, fs, rfl, q0, gf⟩ := z
  cases gT_r (τ := τ) (t := 5) (v := v0) rfl q0
  have z := all2_cons gf
  clear gf
  obtain ⟨v0, fs, rfl, q0, gf⟩ := z
  cases gT_r (τ := τ) (t := 6) (v := v0) rfl q0
  have z := all2_cons gf
  clear gf
  obtain ⟨v0, fs, rfl, q0, gf⟩ := z
  cases gT_r (τ := τ) (t := 7) (v := v0) rfl q0
  have z := all2_cons gf
  clear gf
  obtain ⟨v0, fs, rfl, q0, gf⟩ := z
  obtain ⟨M_stampMany, rfl, b_stampMany⟩ := q0
  have z := all2_cons gf
  clear gf
  obtain ⟨v0, fs, rfl, q0, gf⟩ := z
  cases (q0 : v0 = .inr (some (.inl 1)))
  have z := all2_cons gf
  clear gf
  obtain ⟨v0, fs, rfl, q0, gf⟩ := z
  obtain ⟨M_taped, rfl, b_taped⟩ := q0
  have z := all2_cons gf
  clear gf
  obtain ⟨v0, fs, rfl, q0, gf⟩ := z
  obtain ⟨M_place0, rfl, b_place0⟩ := q0
  have z := all2_cons gf
  clear gf
  obtain ⟨v0, fs, rfl, q0, gf⟩ := z
  obtain ⟨M_length0, rfl, b_length0⟩ := q0
  have z := all2_cons gf
  clear gf
  obtain ⟨v0, fs, rfl, q0, gf⟩ := z
  obtain ⟨M_fault, rfl, b_fault⟩ := q0
  have z := all2_cons gf
  clear gf
  obtain ⟨v0, fs, rfl, q0, gf⟩ := z
  obtain ⟨M_number0, rfl, b_number0⟩ := q0
  have z := all2_cons gf
  clear gf
  obtain ⟨v0, fs, rfl, q0, gf⟩ := z
  obtain ⟨M_open, rfl, b_open⟩ := q0
  have z := all2_cons gf
  clear gf
  obtain ⟨v0, fs, rfl, q0, gf⟩ := z
  obtain ⟨M_codeMany, rfl, b_codeMany⟩ := q0
  have z := all2_cons gf
  clear gf
  obtain ⟨v0, fs, rfl, q0, gf⟩ := z
  obtain ⟨M_waiting, rfl, b_waiting⟩ := q0
  have z := all2_cons gf
  clear gf
  obtain ⟨v0, fs, rfl, q0, gf⟩ := z
  obtain ⟨M_saidMany, rfl, b_saidMany⟩ := q0
  have z := all2_cons gf
  clear gf
  obtain ⟨v0, fs, rfl, q0, gf⟩ := z
  cases gT_i (τ := τ) (t := 200) (v := v0) rfl q0
  have z := all2_cons gf
  clear gf
  obtain ⟨v0, fs, rfl, q0, gf⟩ := z
  cases (q0 : v0 = .inr (some (.inl 2)))
  have z := all2_cons gf
  clear gf
  obtain ⟨v0, fs, rfl, q0, gf⟩ := z
  cases (q0 : v0 = .inr (some (.inl 3)))
  have z := all2_cons gf
  clear gf
  obtain ⟨v0, fs, rfl, q0, gf⟩ := z
  cases (q0 : v0 = .inr (some (.inl 4)))
  have z := all2_cons gf
  clear gf
  obtain ⟨v0, fs, rfl, q0, gf⟩ := z
  cases (q0 : v0 = .inr (some (.inl 5)))
  have z := all2_cons gf
  clear gf
  obtain ⟨v0, fs, rfl, q0, gf⟩ := z
  cases (q0 : v0 = .inr (some (.inl 6)))
  have z := all2_cons gf
  clear gf
  obtain ⟨v0, fs, rfl, q0, gf⟩ := z
  cases (q0 : v0 = .inr (some (.inl 7)))
  have z := all2_cons gf
  clear gf
  obtain ⟨v0, fs, rfl, q0, gf⟩ := z
  cases (q0 : v0 = .inr (some (.inl 8)))
  have z := all2_cons gf
  clear gf
  obtain ⟨v0, fs, rfl, q0, gf⟩ := z
  cases (q0 : v0 = .inr (some (.inl 9)))
  have z := all2_cons gf
  clear gf
  obtain ⟨v0, fs, rfl, q0, gf⟩ := z
  cases (q0 : v0 = .inr (some (.inl 10)))
  have z := all2_cons gf
  clear gf
  obtain ⟨v0, fs, rfl, q0, gf⟩ := z
  cases (q0 : v0 = .inr (some (.inl 11)))
  have z := all2_cons gf
  clear gf
  obtain ⟨v0, fs, rfl, q0, gf⟩ := z
  cases (q0 : v0 = .inr (some (.inl 12)))
  have z := all2_cons gf
  clear gf
  obtain ⟨v0, fs, rfl, q0, gf⟩ := z
  cases gT_r (τ := τ) (t := 8) (v := v0) rfl q0
  have z := all2_cons gf
  clear gf
  obtain ⟨v0, fs, rfl, q0, gf⟩ := z
  cases gT_r (τ := τ) (t := 9) (v := v0) rfl q0
  have z := all2_cons gf
  clear gf
  obtain ⟨v0, fs, rfl, q0, gf⟩ := z
  cases gT_r (τ := τ) (t := 10) (v := v0) rfl q0
  have z := all2_cons gf
  clear gf
  obtain ⟨v0, fs, rfl, q0, gf⟩ := z
  cases gT_r (τ := τ) (t := 11) (v := v0) rfl q0
  have z := all2_cons gf
  clear gf
  obtain ⟨v0, fs, rfl, q0, gf⟩ := z
  cases gT_r (τ := τ) (t := 12) (v := v0) rfl q0
  have z := all2_cons gf
  clear gf
  obtain ⟨v0, fs, rfl, q0, gf⟩ := z
  cases gT_r (τ := τ) (t := 13) (v := v0) rfl q0
  have z := all2_cons gf
  clear gf
  obtain ⟨v0, fs, rfl, q0, gf⟩ := z
  obtain ⟨M_newMany, rfl, b_newMany⟩ := q0
  have z := all2_cons gf
  clear gf
  obtain ⟨v0, fs, rfl, q0, gf⟩ := z
  obtain ⟨M_rounds, rfl, b_rounds⟩ := q0
  have z := all2_cons gf
  clear gf
  obtain ⟨v0, fs, rfl, q0, gf⟩ := z
  obtain ⟨M_stampFrom, rfl, b_stampFrom⟩ := q0
  have z := all2_cons gf
  clear gf
  obtain ⟨v0, fs, rfl, q0, gf⟩ := z
  obtain ⟨M_stampTimes, rfl, b_stampTimes⟩ := q0
  have z := all2_cons gf
  clear gf
  obtain ⟨v0, fs, rfl, q0, gf⟩ := z
  obtain ⟨M_lines, rfl, b_lines⟩ := q0
  have z := all2_cons gf
  clear gf
  obtain ⟨v0, fs, rfl, q0, gf⟩ := z
  obtain ⟨M_spot0, rfl, b_spot0⟩ := q0
  have z := all2_cons gf
  clear gf
  obtain ⟨v0, fs, rfl, q0, gf⟩ := z
  obtain ⟨M_pullAcross, rfl, b_pullAcross⟩ := q0
  have z := all2_cons gf
  clear gf
  obtain ⟨v0, fs, rfl, q0, gf⟩ := z
  obtain ⟨M_pullAlong, rfl, b_pullAlong⟩ := q0
  have z := all2_cons gf
  clear gf
  obtain ⟨v0, fs, rfl, q0, gf⟩ := z
  obtain ⟨M_stepsNow, rfl, b_stepsNow⟩ := q0
  have z := all2_cons gf
  clear gf
  obtain ⟨v0, fs, rfl, q0, gf⟩ := z
  obtain ⟨M_fallenNow, rfl, b_fallenNow⟩ := q0
  have z := all2_cons gf
  clear gf
  obtain ⟨v0, fs, rfl, q0, gf⟩ := z
  cases gT_r (τ := τ) (t := 14) (v := v0) rfl q0
  have z := all2_cons gf
  clear gf
  obtain ⟨v0, fs, rfl, q0, gf⟩ := z
  cases gT_r (τ := τ) (t := 15) (v := v0) rfl q0
  have z := all2_cons gf
  clear gf
  obtain ⟨v0, fs, rfl, q0, gf⟩ := z
  cases gT_r (τ := τ) (t := 16) (v := v0) rfl q0
  have z := all2_cons gf
  clear gf
  obtain ⟨v0, fs, rfl, q0, gf⟩ := z
  cases gT_r (τ := τ) (t := 17) (v := v0) rfl q0
  have z := all2_cons gf
  clear gf
  obtain ⟨v0, fs, rfl, q0, gf⟩ := z
  cases gT_r (τ := τ) (t := 18) (v := v0) rfl q0
  have z := all2_cons gf
  clear gf
  obtain ⟨v0, fs, rfl, q0, gf⟩ := z
  obtain ⟨M_isKept, rfl, e_isKept, b_isKept⟩ := gT_x (τ := τ) (t := 201) (v := v0) rfl q0
  cases fs with
  | cons _ _ => exact gf.elim
  | nil =>
    have z := all2_cons hh
    clear hh
    obtain ⟨e1, h, rfl, g1, hh⟩ := z
    rcases e1 with ⟨t1, n1, M_tape⟩ | ⟨ci, fs⟩
    rotate_left
    · exact g1.elim
    obtain ⟨et, en, b_tape⟩ := g1
    cases (et : t1 = 1)
    cases en
    have z := all2_cons hh
    clear hh
    obtain ⟨e1, h, rfl, g1, hh⟩ := z
    rcases e1 with ⟨t1, n1, M_said⟩ | ⟨ci, fs⟩
    rotate_left
    · exact g1.elim
    obtain ⟨et, en, b_said⟩ := g1
    cases (et : t1 = 0)
    cases en
    have z := all2_cons hh
    clear hh
    obtain ⟨e1, h, rfl, g1, hh⟩ := z
    rcases e1 with ⟨t1, n1, M_waitsAt⟩ | ⟨ci, fs⟩
    rotate_left
    · exact g1.elim
    obtain ⟨et, en, b_waitsAt⟩ := g1
    cases (et : t1 = 0)
    cases en
    have z := all2_cons hh
    clear hh
    obtain ⟨e1, h, rfl, g1, hh⟩ := z
    rcases e1 with ⟨t1, n1, M_saidLetter⟩ | ⟨ci, fs⟩
    rotate_left
    · exact g1.elim
    obtain ⟨et, en, b_saidLetter⟩ := g1
    cases (et : t1 = 0)
    cases en
    have z := all2_cons hh
    clear hh
    obtain ⟨e1, h, rfl, g1, hh⟩ := z
    rcases e1 with ⟨t1, n1, M_saidFrom⟩ | ⟨ci, fs⟩
    rotate_left
    · exact g1.elim
    obtain ⟨et, en, b_saidFrom⟩ := g1
    cases (et : t1 = 0)
    cases en
    have z := all2_cons hh
    clear hh
    obtain ⟨e1, h, rfl, g1, hh⟩ := z
    rcases e1 with ⟨t1, n1, M_saidHalf⟩ | ⟨ci, fs⟩
    rotate_left
    · exact g1.elim
    obtain ⟨et, en, b_saidHalf⟩ := g1
    cases (et : t1 = 0)
    cases en
    have z := all2_cons hh
    clear hh
    obtain ⟨e1, h, rfl, g1, hh⟩ := z
    rcases e1 with ⟨t1, n1, M_saidTo⟩ | ⟨ci, fs⟩
    rotate_left
    · exact g1.elim
    obtain ⟨et, en, b_saidTo⟩ := g1
    cases (et : t1 = 0)
    cases en
    have z := all2_cons hh
    clear hh
    obtain ⟨e1, h, rfl, g1, hh⟩ := z
    rcases e1 with ⟨t1, n1, M_codes⟩ | ⟨ci, fs⟩
    rotate_left
    · exact g1.elim
    obtain ⟨et, en, b_codes⟩ := g1
    cases (et : t1 = 0)
    cases en
    have z := all2_cons hh
    clear hh
    obtain ⟨e1, h, rfl, g1, hh⟩ := z
    rcases e1 with ⟨t1, n1, M_clauseOf⟩ | ⟨ci, fs⟩
    rotate_left
    · exact g1.elim
    obtain ⟨et, en, b_clauseOf⟩ := g1
    cases (et : t1 = 0)
    cases en
    have z := all2_cons hh
    clear hh
    obtain ⟨e1, h, rfl, g1, hh⟩ := z
    rcases e1 with ⟨t1, n1, M_codeFrom⟩ | ⟨ci, fs⟩
    rotate_left
    · exact g1.elim
    obtain ⟨et, en, b_codeFrom⟩ := g1
    cases (et : t1 = 0)
    cases en
    have z := all2_cons hh
    clear hh
    obtain ⟨e1, h, rfl, g1, hh⟩ := z
    rcases e1 with ⟨t1, n1, M_codeHalf⟩ | ⟨ci, fs⟩
    rotate_left
    · exact g1.elim
    obtain ⟨et, en, b_codeHalf⟩ := g1
    cases (et : t1 = 0)
    cases en
    have z := all2_cons hh
    clear hh
    obtain ⟨e1, h, rfl, g1, hh⟩ := z
    rcases e1 with ⟨t1, n1, M_codeTo⟩ | ⟨ci, fs⟩
    rotate_left
    · exact g1.elim
    obtain ⟨et, en, b_codeTo⟩ := g1
    cases (et : t1 = 0)
    cases en
    cases h with
    | cons _ _ => exact hh.elim
    | nil =>
    obtain ⟨t0, ht0, rfl⟩ := rng_n (x := M_waiting) (k := 260) b_waiting.1 b_waiting.2
    obtain ⟨s, hs, rfl⟩ := rng_n (x := M_taped) (k := 260) (by omega) b_taped.2
    have es := sz_n (c := s) (by omega)
    obtain ⟨rF, eF⟩ := rg_x rfl b_tape
    have k5 : n ≤ 240 := by omega
    refine (z_X12_law (b := ob (fun i => f_and (decA (τ 251) i) 255)) (n := n) (t0 := t0) (tn := s) h1.1 k5 (by omega) ht0 hs (fun i hi => ob_ok (f := fun i => f_and (decA (τ 251) i) 255) (F := fun i => f_and (M_tape i) 255) (by omega) (by show f_and (M_tape i) 255 = f_and (decA (τ 251) i) 255; rw [eF i (by omega)]) oct_rng)).mono (fun r h' hp => ?_)
    rcases hp with ⟨y, sd, wt, sl, sf, sh, st, c', t', p', m, v, o, f, rfl, kQ, k1, k2, k3, k4, rfl⟩ | ⟨y, sd, wt, sl, sf, sh, st, cd, co, cf, ch, ct, c', t', p', m, v, o, f, rfl, kQ, k1, k2, k3, k4, k6, rfl⟩
    · exact ⟨τ, y, hΦ, fun _ _ => rfl, rfl, kQ, ⟨⟨rfl, rfl, rfl, rfl, rfl, rfl, rfl, rfl, rfl, ⟨_, rfl, b_stampMany⟩, rfl, ⟨_, rfl, nr (m := 0) (k := 0) (by omega) (by omega)⟩, ⟨_, rfl, nr (m := 240) k3 (by omega)⟩, ⟨_, rfl, nr (m := 240) k5 (by omega)⟩, topA_ok _, topA_ok _, topA_ok _, ⟨_, rfl, nr (m := 260) k1 (by omega)⟩, ⟨_, rfl, nr (m := 260) k2 (by omega)⟩, ⟨_, rfl, nr (m := 16) k4 (by omega)⟩, gT_mk (t := 200) rfl rfl ⟨i32lo _, i32hi _⟩, rfl, rfl, rfl, rfl, rfl, rfl, rfl, rfl, rfl, rfl, rfl, rfl, rfl, rfl, rfl, rfl, rfl, ⟨_, rfl, b_newMany⟩, ⟨_, rfl, b_rounds⟩, ⟨_, rfl, b_stampFrom⟩, ⟨_, rfl, b_stampTimes⟩, ⟨_, rfl, b_lines⟩, ⟨_, rfl, b_spot0⟩, ⟨_, rfl, b_pullAcross⟩, ⟨_, rfl, b_pullAlong⟩, ⟨_, rfl, b_stepsNow⟩, ⟨_, rfl, b_fallenNow⟩, rfl, rfl, rfl, rfl, rfl, gT_mk rfl e_isKept b_isKept, trivial⟩, ⟨rfl, rfl, b_tape⟩, ⟨rfl, rfl, of_rg rg_top⟩, ⟨rfl, rfl, of_rg rg_top⟩, ⟨rfl, rfl, of_rg rg_top⟩, ⟨rfl, rfl, of_rg rg_top⟩, ⟨rfl, rfl, of_rg rg_top⟩, ⟨rfl, rfl, of_rg rg_top⟩, ⟨rfl, rfl, b_codes⟩, ⟨rfl, rfl, b_clauseOf⟩, ⟨rfl, rfl, b_codeFrom⟩, ⟨rfl, rfl, b_codeHalf⟩, ⟨rfl, rfl, b_codeTo⟩, trivial⟩⟩
    · refine ⟨tauL τ cd cf ch ct (nI m), y, tauL_Φ k6, fun t ht => tauL_lo (kT200 ht), rfl, kQ, ?_⟩
      have em : (nI m : Int32) = decA (tauL τ cd cf ch ct (nI m) 200) 0 := tauL_m.symm
      exact ⟨⟨rfl, rfl, rfl, rfl, rfl, rfl, rfl, rfl, rfl, ⟨_, rfl, b_stampMany⟩, rfl, ⟨_, rfl, nr (m := 0) (k := 0) (by omega) (by omega)⟩, ⟨_, rfl, nr (m := 240) k3 (by omega)⟩, ⟨_, rfl, nr (m := 240) k5 (by omega)⟩, topA_ok _, topA_ok _, topA_ok _, ⟨_, rfl, nr (m := 260) k1 (by omega)⟩, ⟨_, rfl, nr (m := 260) k2 (by omega)⟩, ⟨_, rfl, nr (m := 16) k4 (by omega)⟩, gT_mk (t := 200) rfl em ⟨i32lo _, i32hi _⟩, rfl, rfl, rfl, rfl, rfl, rfl, rfl, rfl, rfl, rfl, rfl, rfl, rfl, rfl, rfl, rfl, rfl, ⟨_, rfl, b_newMany⟩, ⟨_, rfl, b_rounds⟩, ⟨_, rfl, b_stampFrom⟩, ⟨_, rfl, b_stampTimes⟩, ⟨_, rfl, b_lines⟩, ⟨_, rfl, b_spot0⟩, ⟨_, rfl, b_pullAcross⟩, ⟨_, rfl, b_pullAlong⟩, ⟨_, rfl, b_stepsNow⟩, ⟨_, rfl, b_fallenNow⟩, rfl, rfl, rfl, rfl, rfl, gT_mk rfl e_isKept b_isKept, trivial⟩, ⟨rfl, rfl, b_tape⟩, ⟨rfl, rfl, of_rg rg_top⟩, ⟨rfl, rfl, of_rg rg_top⟩, ⟨rfl, rfl, of_rg rg_top⟩, ⟨rfl, rfl, of_rg rg_top⟩, ⟨rfl, rfl, of_rg rg_top⟩, ⟨rfl, rfl, of_rg rg_top⟩, ⟨rfl, rfl, of_ex (fun i hi => (encA_ok hi).symm)⟩, ⟨rfl, rfl, of_rg rg_top⟩, ⟨rfl, rfl, of_ex (fun i hi => (encA_ok hi).symm)⟩, ⟨rfl, rfl, of_ex (fun i hi => (encA_ok hi).symm)⟩, ⟨rfl, rfl, of_ex (fun i hi => (encA_ok hi).symm)⟩, trivial⟩
