
/-! ===== rows with exact answers ===== -/
def upL (τ : Nat → List (Option Nat)) (k : Nat) (l : List (Option Nat)) (t : Nat) : List (Option Nat) := match Nat.beq t k with
  | true => l
  | false => τ t
theorem upL_ne {τ : Nat → List (Option Nat)} {k t : Nat} {l : List (Option Nat)} (h : t ≠ k) : upL τ k l t = τ t := by
  unfold upL
  cases e : Nat.beq t k
  · rfl
  · exact absurd (Nat.eq_of_beq_eq_true e) h
theorem upL_at {τ : Nat → List (Option Nat)} {k : Nat} {l : List (Option Nat)} : upL τ k l k = l := by
  unfold upL
  rw [Nat.beq_refl]
theorem ch_ne {t k : Nat} (h : (Nat.ble 100 t && Nat.beq t k) = false) (hk : Nat.ble 100 k = true) : t ≠ k := fun z => by
  subst z
  rw [hk, Nat.beq_refl] at h
  cases h
theorem sq_4 : ∀ n, n ≤ 4 → n * n ≤ 16 := by decide
theorem sq_6 : ∀ n, n ≤ 6 → n * n ≤ 36 := by decide
theorem of_7 {τ : Nat → List (Option Nat)} {n : Nat} {f : Nat → Int32} (b : f 0 = 0) : ∀ i, i < n → (sel 700 i = true → (0 : Int) ≤ (f i).toInt ∧ (f i).toInt ≤ 0) ∧ (700 = 5 → f i = decA (τ (0 : Int).toNat) i) ∧ (Nat.ble 10 700 = true → g3 τ 700 i (f i)) := fun i _ => ⟨fun z => by
  have q : i + 700 = 700 := Nat.eq_of_beq_eq_true z
  rw [show i = 0 by omega, b]
  exact ⟨by decide, by decide⟩, fun z => absurd z (by decide), fun _ => g3_m rfl rfl⟩

def HX_feedC (c : Nat) : List AC := [.inr (10, [.inr (.inr (some (.inl 1))), .inr (.inr (some (.inr 0))), .inr (.inr (some (.inr 1))), .inr (.inr (some (.inr 2))), .inr (.inr (some (.inr 3))), .inr (.inr (some (.inr 4))), .inr (.inr (some (.inr 5))), .inr (.inr (some (.inr 6))), .inr (.inr (some (.inr 7))), .inr (.inr (some (.inr 8))), .inr (.inr (some (.inr 9))), .inr (.inr (some (.inr 10))), .inr (.inr (some (.inr 11))), .inr (.inr (some (.inr 12))), .inr (.inr (some (.inr 201)))]), .inr (9, [.inr (.inr (some (.inl 2))), .inl ((((c : Nat) : Int) : Int), (((c : Nat) : Int) : Int))]), .inl (1000, 260, 0, 255)]
def HY_feedC (c : Nat) : List AC := [.inr (10, [.inr (.inr (some (.inl 1))), .inr (.inr (some (.inr 0))), .inr (.inr (some (.inr 1))), .inr (.inr (some (.inr 2))), .inr (.inr (some (.inr 3))), .inr (.inr (some (.inr 4))), .inr (.inr (some (.inr 5))), .inr (.inr (some (.inr 6))), .inr (.inr (some (.inr 7))), .inr (.inr (some (.inr 8))), .inr (.inr (some (.inr 9))), .inr (.inr (some (.inr 10))), .inr (.inr (some (.inr 11))), .inr (.inr (some (.inr 12))), .inr (.inr (some (.inr 201)))]), .inr (9, [.inr (.inr (some (.inl 2))), .inl ((((c + 20 : Nat) : Int) : Int), (((c + 20 : Nat) : Int) : Int))]), .inl (1000, 260, 0, 255)]
def HN_feedC : List AC := [.inr (10, [.inr (.inr (some (.inl 1))), .inr (.inr (some (.inr 0))), .inr (.inr (some (.inr 1))), .inr (.inr (some (.inr 2))), .inr (.inr (some (.inr 3))), .inr (.inr (some (.inr 4))), .inr (.inr (some (.inr 5))), .inr (.inr (some (.inr 6))), .inr (.inr (some (.inr 7))), .inr (.inr (some (.inr 8))), .inr (.inr (some (.inr 9))), .inr (.inr (some (.inr 10))), .inr (.inr (some (.inr 11))), .inr (.inr (some (.inr 12))), .inr (.inr (some (.inr 201)))]), .inr (9, [.inr (.inr (some (.inl 2))), .inl (260, 260)]), .inl (1000, 260, 0, 255)]
set_option maxRecDepth 100000 in
theorem x_feedC {l : Launch} {c : Nat} {a b d e f : Int32} (hc : c + 20 ≤ 260) : conOkX (MetP l 2 yX11_feed cX11_feed 6 (some .int) 0 0) [a, b, d, e, f] (HX_feedC c) (HY_feedC c) (fun t => Nat.beq t 250) (fun _ => True) (fun τ τ' y => y = nI (c + 20) ∧ ∃ F : Nat → Int32, (∀ i, i < 260 → F i = decA (τ 250) i) ∧ ∀ i, i < 260 → decA (τ' 250) i = fdC F c a b d e f i) := by
  intro τ hΦ hP h hh
  have z := all2_cons hh
  clear hh
  obtain ⟨e0, h, rfl, g0, hh⟩ := z
  rcases e0 with ⟨t0, n0, f0⟩ | ⟨ci, fs⟩
  · exact g0.elim
  obtain ⟨rfl, gf⟩ := g0
  have z := all2_cons gf
  clear gf
  obtain ⟨v0, fs, rfl, q0, gf⟩ := z
  cases (q0 : v0 = .inr (some (.inl 1)))
  have z := all2_cons gf
  clear gf
  obtain ⟨v0, fs, rfl, q0, gf⟩ := z
  cases gT_r (τ := τ) (t := 0) (v := v0) rfl q0
  have z := all2_cons gf
  clear gf
  obtain ⟨v0, fs, rfl, q0, gf⟩ := z
  cases gT_r (τ := τ) (t := 1) (v := v0) rfl q0
  have z := all2_cons gf
  clear gf
  obtain ⟨v0, fs, rfl, q0, gf⟩ := z
  cases gT_r (τ := τ) (t := 2) (v := v0) rfl q0
  have z := all2_cons gf
  clear gf
  obtain ⟨v0, fs, rfl, q0, gf⟩ := z
  cases gT_r (τ := τ) (t := 3) (v := v0) rfl q0
  have z := all2_cons gf
  clear gf
  obtain ⟨v0, fs, rfl, q0, gf⟩ := z
  cases gT_r (τ := τ) (t := 4) (v := v0) rfl q0
  have z := all2_cons gf
  clear gf
  obtain ⟨v0, fs, rfl, q0, gf⟩ := z
  cases gT_r (τ := τ) (t := 5) (v := v0) rfl q0
  have z := all2_cons gf
  clear gf
  obtain ⟨v0, fs, rfl, q0, gf⟩ := z
  cases gT_r (τ := τ) (t := 6) (v := v0) rfl q0
  have z := all2_cons gf
  clear gf
  obtain ⟨v0, fs, rfl, q0, gf⟩ := z
  cases gT_r (τ := τ) (t := 7) (v := v0) rfl q0
  have z := all2_cons gf
  clear gf
  obtain ⟨v0, fs, rfl, q0, gf⟩ := z
  cases gT_r (τ := τ) (t := 8) (v := v0) rfl q0
  have z := all2_cons gf
  clear gf
  obtain ⟨v0, fs, rfl, q0, gf⟩ := z
  cases gT_r (τ := τ) (t := 9) (v := v0) rfl q0
  have z := all2_cons gf
  clear gf
  obtain ⟨v0, fs, rfl, q0, gf⟩ := z
  cases gT_r (τ := τ) (t := 10) (v := v0) rfl q0
  have z := all2_cons gf
  clear gf
  obtain ⟨v0, fs, rfl, q0, gf⟩ := z
  cases gT_r (τ := τ) (t := 11) (v := v0) rfl q0
  have z := all2_cons gf
  clear gf
  obtain ⟨v0, fs, rfl, q0, gf⟩ := z
  cases gT_r (τ := τ) (t := 12) (v := v0) rfl q0
  have z := all2_cons gf
  clear gf
  obtain ⟨v0, fs, rfl, q0, gf⟩ := z
  obtain ⟨HS_wasKept, rfl, e_HS_wasKept, b_HS_wasKept⟩ := gT_x (τ := τ) (t := 201) (v := v0) rfl q0
  cases fs with
  | cons _ _ => exact gf.elim
  | nil =>
    have z := all2_cons hh
    clear hh
    obtain ⟨e0, h, rfl, g0, hh⟩ := z
    rcases e0 with ⟨t0, n0, f0⟩ | ⟨ci, fs⟩
    · exact g0.elim
    obtain ⟨rfl, gf⟩ := g0
    have z := all2_cons gf
    clear gf
    obtain ⟨v0, fs, rfl, q0, gf⟩ := z
    cases (q0 : v0 = .inr (some (.inl 2)))
    have z := all2_cons gf
    clear gf
    obtain ⟨v0, fs, rfl, q0, gf⟩ := z
    obtain ⟨Tape_size, rfl, b_Tape_size⟩ := q0
    cases fs with
    | cons _ _ => exact gf.elim
    | nil =>
      have z := all2_cons hh
      clear hh
      obtain ⟨e1, h, rfl, g1, hh⟩ := z
      rcases e1 with ⟨t1, n1, Tape_bytes⟩ | ⟨ci, fs⟩
      rotate_left
      · exact g1.elim
      obtain ⟨et, en, b_Tape_bytes⟩ := g1
      cases (et : t1 = 0)
      cases en
      cases h with
      | cons _ _ => exact hh.elim
      | nil =>
        obtain ⟨s, hs, rfl⟩ := rng_n (x := Tape_size) (k := 260) (by omega) (by omega)
        have es := sz_n (c := s) (by omega)
        obtain rfl : s = c := by omega
        obtain ⟨rF, eF⟩ := rg_x rfl b_Tape_bytes
        refine (c_X11_feed hc).mono (fun r h' hp => ?_)
        obtain ⟨rfl, rfl⟩ := hp
        exact ⟨upL τ 250 (encA (fdC Tape_bytes s a b d e f) 260), nI (s + 20), hΦ, fun t ht => upL_ne (ch_ne ht rfl), rfl, ⟨rfl, Tape_bytes, eF, fun i hi => by rw [upL_at]; exact encA_ok hi⟩, ⟨⟨rfl, rfl, rfl, rfl, rfl, rfl, rfl, rfl, rfl, rfl, rfl, rfl, rfl, rfl, rfl, gT_mk rfl e_HS_wasKept b_HS_wasKept, trivial⟩, ⟨rfl, rfl, ⟨_, rfl, sz_n (by omega)⟩, trivial⟩, ⟨rfl, rfl, of_x rfl (fdC_rg rF) (fun i hi => (encA_ok hi).symm)⟩, trivial⟩⟩

set_option maxRecDepth 100000 in
theorem n_feedC {l : Launch} {a b d e f : Int32} : conOkX (MetP l 2 yX11_feed cX11_feed 6 (some .int) 0 0) [a, b, d, e, f] HN_feedC HN_feedC (fun _ => false) (fun _ => True) (fun _ _ y => y = -1) := by
  intro τ hΦ hP h hh
  have z := all2_cons hh
  clear hh
  obtain ⟨e0, h, rfl, g0, hh⟩ := z
  rcases e0 with ⟨t0, n0, f0⟩ | ⟨ci, fs⟩
  · exact g0.elim
  obtain ⟨rfl, gf⟩ := g0
  have z := all2_cons gf
  clear gf
  obtain ⟨v0, fs, rfl, q0, gf⟩ := z
  cases (q0 : v0 = .inr (some (.inl 1)))
  have z := all2_cons gf
  clear gf
  obtain ⟨v0, fs, rfl, q0, gf⟩ := z
  cases gT_r (τ := τ) (t := 0) (v := v0) rfl q0
  have z := all2_cons gf
  clear gf
  obtain ⟨v0, fs, rfl, q0, gf⟩ := z
  cases gT_r (τ := τ) (t := 1) (v := v0) rfl q0
  have z := all2_cons gf
  clear gf
  obtain ⟨v0, fs, rfl, q0, gf⟩ := z
  cases gT_r (τ := τ) (t := 2) (v := v0) rfl q0
  have z := all2_cons gf
  clear gf
  obtain ⟨v0, fs, rfl, q0, gf⟩ := z
  cases gT_r (τ := τ) (t := 3) (v := v0) rfl q0
  have z := all2_cons gf
  clear gf
  obtain ⟨v0, fs, rfl, q0, gf⟩ := z
  cases gT_r (τ := τ) (t := 4) (v := v0) rfl q0
  have z := all2_cons gf
  clear gf
  obtain ⟨v0, fs, rfl, q0, gf⟩ := z
  cases gT_r (τ := τ) (t := 5) (v := v0) rfl q0
  have z := all2_cons gf
  clear gf
  obtain ⟨v0, fs, rfl, q0, gf⟩ := z
  cases gT_r (τ := τ) (t := 6) (v := v0) rfl q0
  have z := all2_cons gf
  clear gf
  obtain ⟨v0, fs, rfl, q0, gf⟩ := z
  cases gT_r (τ := τ) (t := 7) (v := v0) rfl q0
  have z := all2_cons gf
  clear gf
  obtain ⟨v0, fs, rfl, q0, gf⟩ := z
  cases gT_r (τ := τ) (t := 8) (v := v0) rfl q0
  have z := all2_cons gf
  clear gf
  obtain ⟨v0, fs, rfl, q0, gf⟩ := z
  cases gT_r (τ := τ) (t := 9) (v := v0) rfl q0
  have z := all2_cons gf
  clear gf
  obtain ⟨v0, fs, rfl, q0, gf⟩ := z
  cases gT_r (τ := τ) (t := 10) (v := v0) rfl q0
  have z := all2_cons gf
  clear gf
  obtain ⟨v0, fs, rfl, q0, gf⟩ := z
  cases gT_r (τ := τ) (t := 11) (v := v0) rfl q0
  have z := all2_cons gf
  clear gf
  obtain ⟨v0, fs, rfl, q0, gf⟩ := z
  cases gT_r (τ := τ) (t := 12) (v := v0) rfl q0
  have z := all2_cons gf
  clear gf
  obtain ⟨v0, fs, rfl, q0, gf⟩ := z
  obtain ⟨HS_wasKept, rfl, e_HS_wasKept, b_HS_wasKept⟩ := gT_x (τ := τ) (t := 201) (v := v0) rfl q0
  cases fs with
  | cons _ _ => exact gf.elim
  | nil =>
    have z := all2_cons hh
    clear hh
    obtain ⟨e0, h, rfl, g0, hh⟩ := z
    rcases e0 with ⟨t0, n0, f0⟩ | ⟨ci, fs⟩
    · exact g0.elim
    obtain ⟨rfl, gf⟩ := g0
    have z := all2_cons gf
    clear gf
    obtain ⟨v0, fs, rfl, q0, gf⟩ := z
    cases (q0 : v0 = .inr (some (.inl 2)))
    have z := all2_cons gf
    clear gf
    obtain ⟨v0, fs, rfl, q0, gf⟩ := z
    obtain ⟨Tape_size, rfl, b_Tape_size⟩ := q0
    cases fs with
    | cons _ _ => exact gf.elim
    | nil =>
      have z := all2_cons hh
      clear hh
      obtain ⟨e1, h, rfl, g1, hh⟩ := z
      rcases e1 with ⟨t1, n1, Tape_bytes⟩ | ⟨ci, fs⟩
      rotate_left
      · exact g1.elim
      obtain ⟨et, en, b_Tape_bytes⟩ := g1
      cases (et : t1 = 0)
      cases en
      cases h with
      | cons _ _ => exact hh.elim
      | nil =>
        obtain rfl : Tape_size = nI 260 := i32eq.mpr (show Tape_size.toInt = 260 by omega)
        refine n_X11_feed.mono (fun r h' hp => ?_)
        obtain ⟨rfl, rfl⟩ := hp
        exact ⟨τ, -1, hΦ, fun _ _ => rfl, rfl, rfl, ⟨⟨rfl, rfl, rfl, rfl, rfl, rfl, rfl, rfl, rfl, rfl, rfl, rfl, rfl, rfl, rfl, gT_mk rfl e_HS_wasKept b_HS_wasKept, trivial⟩, ⟨rfl, rfl, ⟨_, rfl, b_Tape_size⟩, trivial⟩, ⟨rfl, rfl, b_Tape_bytes⟩, trivial⟩⟩

def HX_feedR (c : Nat) : List AC := [.inr (11, [.inr (.inr (some (.inr 0))), .inr (.inr (some (.inr 1))), .inr (.inr (some (.inr 2))), .inr (.inr (some (.inr 3))), .inr (.inr (some (.inr 4))), .inr (.inr (some (.inr 5))), .inr (.inr (some (.inr 6))), .inr (.inr (some (.inr 7))), .inl (0, 48), .inr (.inr (some (.inl 1))), .inl ((((c : Nat) : Int) : Int), (((c : Nat) : Int) : Int)), .inl (0, 240), .inl (0, 240), .inl (-2147483648, 2147483647), .inl (-2147483648, 2147483647), .inl (-2147483648, 2147483647), .inl (0, 260), .inl (0, 260), .inl (0, 16), .inr (.inr (some (.inr 200))), .inr (.inr (some (.inr 8))), .inr (.inr (some (.inr 9))), .inr (.inr (some (.inr 10))), .inr (.inr (some (.inr 11))), .inr (.inr (some (.inr 12))), .inr (.inr (some (.inr 13))), .inr (.inr (some (.inr 14))), .inr (.inr (some (.inr 15))), .inr (.inr (some (.inr 16))), .inr (.inr (some (.inr 17))), .inr (.inr (some (.inr 18))), .inr (.inr (some (.inr 19))), .inr (.inr (some (.inr 20))), .inr (.inr (some (.inr 21))), .inr (.inr (some (.inr 22))), .inr (.inr (some (.inr 23))), .inr (.inr (some (.inr 24))), .inl (-2147483648, 2147483647), .inl (-2147483648, 2147483647), .inl (-2147483648, 2147483647), .inl (-2147483648, 2147483647), .inl (-2147483648, 2147483647), .inl (-2147483648, 2147483647), .inl (-2147483648, 2147483647), .inl (-2147483648, 2147483647), .inl (-2147483648, 2147483647), .inl (-2147483648, 2147483647), .inr (.inr (some (.inr 25))), .inr (.inr (some (.inr 26))), .inr (.inr (some (.inr 27))), .inr (.inr (some (.inr 28))), .inr (.inr (some (.inr 29))), .inr (.inr (some (.inr 201)))]), .inl (1005, 260, -128, 127)]
def HY_feedR (c : Nat) : List AC := [.inr (11, [.inr (.inr (some (.inr 0))), .inr (.inr (some (.inr 1))), .inr (.inr (some (.inr 2))), .inr (.inr (some (.inr 3))), .inr (.inr (some (.inr 4))), .inr (.inr (some (.inr 5))), .inr (.inr (some (.inr 6))), .inr (.inr (some (.inr 7))), .inl (0, 48), .inr (.inr (some (.inl 1))), .inl ((((c + 20 : Nat) : Int) : Int), (((c + 20 : Nat) : Int) : Int)), .inl (0, 240), .inl (0, 240), .inl (-2147483648, 2147483647), .inl (-2147483648, 2147483647), .inl (-2147483648, 2147483647), .inl (0, 260), .inl (0, 260), .inl (0, 16), .inr (.inr (some (.inr 200))), .inr (.inr (some (.inr 8))), .inr (.inr (some (.inr 9))), .inr (.inr (some (.inr 10))), .inr (.inr (some (.inr 11))), .inr (.inr (some (.inr 12))), .inr (.inr (some (.inr 13))), .inr (.inr (some (.inr 14))), .inr (.inr (some (.inr 15))), .inr (.inr (some (.inr 16))), .inr (.inr (some (.inr 17))), .inr (.inr (some (.inr 18))), .inr (.inr (some (.inr 19))), .inr (.inr (some (.inr 20))), .inr (.inr (some (.inr 21))), .inr (.inr (some (.inr 22))), .inr (.inr (some (.inr 23))), .inr (.inr (some (.inr 24))), .inl (-2147483648, 2147483647), .inl (-2147483648, 2147483647), .inl (-2147483648, 2147483647), .inl (-2147483648, 2147483647), .inl (-2147483648, 2147483647), .inl (-2147483648, 2147483647), .inl (-2147483648, 2147483647), .inl (-2147483648, 2147483647), .inl (-2147483648, 2147483647), .inl (-2147483648, 2147483647), .inr (.inr (some (.inr 25))), .inr (.inr (some (.inr 26))), .inr (.inr (some (.inr 27))), .inr (.inr (some (.inr 28))), .inr (.inr (some (.inr 29))), .inr (.inr (some (.inr 201)))]), .inl (1005, 260, -128, 127)]
def HN_feedR : List AC := [.inr (11, [.inr (.inr (some (.inr 0))), .inr (.inr (some (.inr 1))), .inr (.inr (some (.inr 2))), .inr (.inr (some (.inr 3))), .inr (.inr (some (.inr 4))), .inr (.inr (some (.inr 5))), .inr (.inr (some (.inr 6))), .inr (.inr (some (.inr 7))), .inl (0, 48), .inr (.inr (some (.inl 1))), .inl (260, 260), .inl (0, 240), .inl (0, 240), .inl (-2147483648, 2147483647), .inl (-2147483648, 2147483647), .inl (-2147483648, 2147483647), .inl (0, 260), .inl (0, 260), .inl (0, 16), .inr (.inr (some (.inr 200))), .inr (.inr (some (.inr 8))), .inr (.inr (some (.inr 9))), .inr (.inr (some (.inr 10))), .inr (.inr (some (.inr 11))), .inr (.inr (some (.inr 12))), .inr (.inr (some (.inr 13))), .inr (.inr (some (.inr 14))), .inr (.inr (some (.inr 15))), .inr (.inr (some (.inr 16))), .inr (.inr (some (.inr 17))), .inr (.inr (some (.inr 18))), .inr (.inr (some (.inr 19))), .inr (.inr (some (.inr 20))), .inr (.inr (some (.inr 21))), .inr (.inr (some (.inr 22))), .inr (.inr (some (.inr 23))), .inr (.inr (some (.inr 24))), .inl (-2147483648, 2147483647), .inl (-2147483648, 2147483647), .inl (-2147483648, 2147483647), .inl (-2147483648, 2147483647), .inl (-2147483648, 2147483647), .inl (-2147483648, 2147483647), .inl (-2147483648, 2147483647), .inl (-2147483648, 2147483647), .inl (-2147483648, 2147483647), .inl (-2147483648, 2147483647), .inr (.inr (some (.inr 25))), .inr (.inr (some (.inr 26))), .inr (.inr (some (.inr 27))), .inr (.inr (some (.inr 28))), .inr (.inr (some (.inr 29))), .inr (.inr (some (.inr 201)))]), .inl (1005, 260, -128, 127)]
set_option maxRecDepth 100000 in
theorem x_feedR {l : Launch} {c : Nat} {a b d e f : Int32} (hc : c + 20 ≤ 260) : conOkX (MetP l 1 yX12_feed cX12_feed 6 (some .int) 0 0) [a, b, d, e, f] (HX_feedR c) (HY_feedR c) (fun t => Nat.beq t 251) (fun _ => True) (fun τ τ' y => y = nI (c + 20) ∧ ∃ F : Nat → Int32, (∀ i, i < 260 → F i = decA (τ 251) i) ∧ ∀ i, i < 260 → decA (τ' 251) i = fdR F c a b d e f i) := by
  intro τ hΦ hP h hh
  have z := all2_cons hh
  clear hh
  obtain ⟨e0, h, rfl, g0, hh⟩ := z
  rcases e0 with ⟨t0, n0, f0⟩ | ⟨ci, fs⟩
  · exact g0.elim
  obtain ⟨rfl, gf⟩ := g0
  have z := all2_cons gf
  clear gf
  obtain ⟨v0, fs, rfl, q0, gf⟩ := z
  cases gT_r (τ := τ) (t := 0) (v := v0) rfl q0
  have z := all2_cons gf
  clear gf
  obtain ⟨v0, fs, rfl, q0, gf⟩ := z
  cases gT_r (τ := τ) (t := 1) (v := v0) rfl q0
  have z := all2_cons gf
  clear gf
  obtain ⟨v0, fs, rfl, q0, gf⟩ := z
  cases gT_r (τ := τ) (t := 2) (v := v0) rfl q0
  have z := all2_cons gf
  clear gf
  obtain ⟨v0, fs, rfl, q0, gf⟩ := z
  cases gT_r (τ := τ) (t := 3) (v := v0) rfl q0
  have z := all2_cons gf
  clear gf
  obtain ⟨v0, fs, rfl, q0, gf⟩ := z
  cases gT_r (τ := τ) (t := 4) (v := v0) rfl q0
  have z := all2_cons gf
  clear gf
  obtain ⟨v0, fs, rfl, q0, gf⟩ := z
  cases gT_r (τ := τ) (t := 5) (v := v0) rfl q0
  have z := all2_cons gf
  clear gf
  obtain ⟨v0, fs, rfl, q0, gf⟩ := z
  cases gT_r (τ := τ) (t := 6) (v := v0) rfl q0
  have z := all2_cons gf
  clear gf
  obtain ⟨v0, fs, rfl, q0, gf⟩ := z
  cases gT_r (τ := τ) (t := 7) (v := v0) rfl q0
  have z := all2_cons gf
  clear gf
  obtain ⟨v0, fs, rfl, q0, gf⟩ := z
  obtain ⟨M_stampMany, rfl, b_M_stampMany⟩ := q0
  have z := all2_cons gf
  clear gf
  obtain ⟨v0, fs, rfl, q0, gf⟩ := z
  cases (q0 : v0 = .inr (some (.inl 1)))
  have z := all2_cons gf
  clear gf
  obtain ⟨v0, fs, rfl, q0, gf⟩ := z
  obtain ⟨M_taped, rfl, b_M_taped⟩ := q0
  have z := all2_cons gf
  clear gf
  obtain ⟨v0, fs, rfl, q0, gf⟩ := z
  obtain ⟨M_place0, rfl, b_M_place0⟩ := q0
  have z := all2_cons gf
  clear gf
  obtain ⟨v0, fs, rfl, q0, gf⟩ := z
  obtain ⟨M_length0, rfl, b_M_length0⟩ := q0
  have z := all2_cons gf
  clear gf
  obtain ⟨v0, fs, rfl, q0, gf⟩ := z
  obtain ⟨M_fault, rfl, b_M_fault⟩ := q0
  have z := all2_cons gf
  clear gf
  obtain ⟨v0, fs, rfl, q0, gf⟩ := z
  obtain ⟨M_number0, rfl, b_M_number0⟩ := q0
  have z := all2_cons gf
  clear gf
  obtain ⟨v0, fs, rfl, q0, gf⟩ := z
  obtain ⟨M_open, rfl, b_M_open⟩ := q0
  have z := all2_cons gf
  clear gf
  obtain ⟨v0, fs, rfl, q0, gf⟩ := z
  obtain ⟨M_codeMany, rfl, b_M_codeMany⟩ := q0
  have z := all2_cons gf
  clear gf
  obtain ⟨v0, fs, rfl, q0, gf⟩ := z
  obtain ⟨M_waiting, rfl, b_M_waiting⟩ := q0
  have z := all2_cons gf
  clear gf
  obtain ⟨v0, fs, rfl, q0, gf⟩ := z
  obtain ⟨M_saidMany, rfl, b_M_saidMany⟩ := q0
  have z := all2_cons gf
  clear gf
  obtain ⟨v0, fs, rfl, q0, gf⟩ := z
  obtain ⟨M_clauses, rfl, e_M_clauses, b_M_clauses⟩ := gT_x (τ := τ) (t := 200) (v := v0) rfl q0
  have z := all2_cons gf
  clear gf
  obtain ⟨v0, fs, rfl, q0, gf⟩ := z
  cases gT_r (τ := τ) (t := 8) (v := v0) rfl q0
  have z := all2_cons gf
  clear gf
  obtain ⟨v0, fs, rfl, q0, gf⟩ := z
  cases gT_r (τ := τ) (t := 9) (v := v0) rfl q0
  have z := all2_cons gf
  clear gf
  obtain ⟨v0, fs, rfl, q0, gf⟩ := z
  cases gT_r (τ := τ) (t := 10) (v := v0) rfl q0
  have z := all2_cons gf
  clear gf
  obtain ⟨v0, fs, rfl, q0, gf⟩ := z
  cases gT_r (τ := τ) (t := 11) (v := v0) rfl q0
  have z := all2_cons gf
  clear gf
  obtain ⟨v0, fs, rfl, q0, gf⟩ := z
  cases gT_r (τ := τ) (t := 12) (v := v0) rfl q0
  have z := all2_cons gf
  clear gf
  obtain ⟨v0, fs, rfl, q0, gf⟩ := z
  cases gT_r (τ := τ) (t := 13) (v := v0) rfl q0
  have z := all2_cons gf
  clear gf
  obtain ⟨v0, fs, rfl, q0, gf⟩ := z
  cases gT_r (τ := τ) (t := 14) (v := v0) rfl q0
  have z := all2_cons gf
  clear gf
  obtain ⟨v0, fs, rfl, q0, gf⟩ := z
  cases gT_r (τ := τ) (t := 15) (v := v0) rfl q0
  have z := all2_cons gf
  clear gf
  obtain ⟨v0, fs, rfl, q0, gf⟩ := z
  cases gT_r (τ := τ) (t := 16) (v := v0) rfl q0
  have z := all2_cons gf
  clear gf
  obtain ⟨v0, fs, rfl, q0, gf⟩ := z
  cases gT_r (τ := τ) (t := 17) (v := v0) rfl q0
  have z := all2_cons gf
  clear gf
  obtain ⟨v0, fs, rfl, q0, gf⟩ := z
  cases gT_r (τ := τ) (t := 18) (v := v0) rfl q0
  have z := all2_cons gf
  clear gf
  obtain ⟨v0, fs, rfl, q0, gf⟩ := z
  cases gT_r (τ := τ) (t := 19) (v := v0) rfl q0
  have z := all2_cons gf
  clear gf
  obtain ⟨v0, fs, rfl, q0, gf⟩ := z
  cases gT_r (τ := τ) (t := 20) (v := v0) rfl q0
  have z := all2_cons gf
  clear gf
  obtain ⟨v0, fs, rfl, q0, gf⟩ := z
  cases gT_r (τ := τ) (t := 21) (v := v0) rfl q0
  have z := all2_cons gf
  clear gf
  obtain ⟨v0, fs, rfl, q0, gf⟩ := z
  cases gT_r (τ := τ) (t := 22) (v := v0) rfl q0
  have z := all2_cons gf
  clear gf
  obtain ⟨v0, fs, rfl, q0, gf⟩ := z
  cases gT_r (τ := τ) (t := 23) (v := v0) rfl q0
  have z := all2_cons gf
  clear gf
  obtain ⟨v0, fs, rfl, q0, gf⟩ := z
  cases gT_r (τ := τ) (t := 24) (v := v0) rfl q0
  have z := all2_cons gf
  clear gf
  obtain ⟨v0, fs, rfl, q0, gf⟩ := z
  obtain ⟨M_newMany, rfl, b_M_newMany⟩ := q0
  have z := all2_cons gf
  clear gf
  obtain ⟨v0, fs, rfl, q0, gf⟩ := z
  obtain ⟨M_rounds, rfl, b_M_rounds⟩ := q0
  have z := all2_cons gf
  clear gf
  obtain ⟨v0, fs, rfl, q0, gf⟩ := z
  obtain ⟨M_stampFrom, rfl, b_M_stampFrom⟩ := q0
  have z := all2_cons gf
  clear gf
  obtain ⟨v0, fs, rfl, q0, gf⟩ := z
  obtain ⟨M_stampTimes, rfl, b_M_stampTimes⟩ := q0
  have z := all2_cons gf
  clear gf
  obtain ⟨v0, fs, rfl, q0, gf⟩ := z
  obtain ⟨M_lines, rfl, b_M_lines⟩ := q0
  have z := all2_cons gf
  clear gf
  obtain ⟨v0, fs, rfl, q0, gf⟩ := z
  obtain ⟨M_spot0, rfl, b_M_spot0⟩ := q0
  have z := all2_cons gf
  clear gf
  obtain ⟨v0, fs, rfl, q0, gf⟩ := z
  obtain ⟨M_pullAcross, rfl, b_M_pullAcross⟩ := q0
  have z := all2_cons gf
  clear gf
  obtain ⟨v0, fs, rfl, q0, gf⟩ := z
  obtain ⟨M_pullAlong, rfl, b_M_pullAlong⟩ := q0
  have z := all2_cons gf
  clear gf
  obtain ⟨v0, fs, rfl, q0, gf⟩ := z
  obtain ⟨M_stepsNow, rfl, b_M_stepsNow⟩ := q0
  have z := all2_cons gf
  clear gf
  obtain ⟨v0, fs, rfl, q0, gf⟩ := z
  obtain ⟨M_fallenNow, rfl, b_M_fallenNow⟩ := q0
  have z := all2_cons gf
  clear gf
  obtain ⟨v0, fs, rfl, q0, gf⟩ := z
  cases gT_r (τ := τ) (t := 25) (v := v0) rfl q0
  have z := all2_cons gf
  clear gf
  obtain ⟨v0, fs, rfl, q0, gf⟩ := z
  cases gT_r (τ := τ) (t := 26) (v := v0) rfl q0
  have z := all2_cons gf
  clear gf
  obtain ⟨v0, fs, rfl, q0, gf⟩ := z
  cases gT_r (τ := τ) (t := 27) (v := v0) rfl q0
  have z := all2_cons gf
  clear gf
  obtain ⟨v0, fs, rfl, q0, gf⟩ := z
  cases gT_r (τ := τ) (t := 28) (v := v0) rfl q0
  have z := all2_cons gf
  clear gf
  obtain ⟨v0, fs, rfl, q0, gf⟩ := z
  cases gT_r (τ := τ) (t := 29) (v := v0) rfl q0
  have z := all2_cons gf
  clear gf
  obtain ⟨v0, fs, rfl, q0, gf⟩ := z
  obtain ⟨M_isKept, rfl, e_M_isKept, b_M_isKept⟩ := gT_x (τ := τ) (t := 201) (v := v0) rfl q0
  cases fs with
  | cons _ _ => exact gf.elim
  | nil =>
    have z := all2_cons hh
    clear hh
    obtain ⟨e1, h, rfl, g1, hh⟩ := z
    rcases e1 with ⟨t1, n1, M_tape⟩ | ⟨ci, fs⟩
    rotate_left
    · exact g1.elim
    obtain ⟨et, en, b_M_tape⟩ := g1
    cases (et : t1 = 1)
    cases en
    cases h with
    | cons _ _ => exact hh.elim
    | nil =>
      obtain ⟨s, hs, rfl⟩ := rng_n (x := M_taped) (k := 260) (by omega) (by omega)
      have es := sz_n (c := s) (by omega)
      obtain rfl : s = c := by omega
      obtain ⟨rF, eF⟩ := rg_x rfl b_M_tape
      refine (c_X12_feed hc).mono (fun r h' hp => ?_)
      obtain ⟨rfl, rfl⟩ := hp
      exact ⟨upL τ 251 (encA (fdR M_tape s a b d e f) 260), nI (s + 20), hΦ, fun t ht => upL_ne (ch_ne ht rfl), rfl, ⟨rfl, M_tape, eF, fun i hi => by rw [upL_at]; exact encA_ok hi⟩, ⟨⟨rfl, rfl, rfl, rfl, rfl, rfl, rfl, rfl, rfl, ⟨_, rfl, b_M_stampMany⟩, rfl, ⟨_, rfl, sz_n (by omega)⟩, ⟨_, rfl, b_M_place0⟩, ⟨_, rfl, b_M_length0⟩, ⟨_, rfl, b_M_fault⟩, ⟨_, rfl, b_M_number0⟩, ⟨_, rfl, b_M_open⟩, ⟨_, rfl, b_M_codeMany⟩, ⟨_, rfl, b_M_waiting⟩, ⟨_, rfl, b_M_saidMany⟩, gT_mk rfl e_M_clauses b_M_clauses, rfl, rfl, rfl, rfl, rfl, rfl, rfl, rfl, rfl, rfl, rfl, rfl, rfl, rfl, rfl, rfl, rfl, ⟨_, rfl, b_M_newMany⟩, ⟨_, rfl, b_M_rounds⟩, ⟨_, rfl, b_M_stampFrom⟩, ⟨_, rfl, b_M_stampTimes⟩, ⟨_, rfl, b_M_lines⟩, ⟨_, rfl, b_M_spot0⟩, ⟨_, rfl, b_M_pullAcross⟩, ⟨_, rfl, b_M_pullAlong⟩, ⟨_, rfl, b_M_stepsNow⟩, ⟨_, rfl, b_M_fallenNow⟩, rfl, rfl, rfl, rfl, rfl, gT_mk rfl e_M_isKept b_M_isKept, trivial⟩, ⟨rfl, rfl, of_x rfl (fdR_rg rF) (fun i hi => (encA_ok hi).symm)⟩, trivial⟩⟩

set_option maxRecDepth 100000 in
theorem n_feedR {l : Launch} {a b d e f : Int32} : conOkX (MetP l 1 yX12_feed cX12_feed 6 (some .int) 0 0) [a, b, d, e, f] HN_feedR HN_feedR (fun _ => false) (fun _ => True) (fun _ _ y => y = -1) := by
  intro τ hΦ hP h hh
  have z := all2_cons hh
  clear hh
  obtain ⟨e0, h, rfl, g0, hh⟩ := z
  rcases e0 with ⟨t0, n0, f0⟩ | ⟨ci, fs⟩
  · exact g0.elim
  obtain ⟨rfl, gf⟩ := g0
  have z := all2_cons gf
  clear gf
  obtain ⟨v0, fs, rfl, q0, gf⟩ := z
  cases gT_r (τ := τ) (t := 0) (v := v0) rfl q0
  have z := all2_cons gf
  clear gf
  obtain ⟨v0, fs, rfl, q0, gf⟩ := z
  cases gT_r (τ := τ) (t := 1) (v := v0) rfl q0
  have z := all2_cons gf
  clear gf
  obtain ⟨v0, fs, rfl, q0, gf⟩ := z
  cases gT_r (τ := τ) (t := 2) (v := v0) rfl q0
  have z := all2_cons gf
  clear gf
  obtain ⟨v0, fs, rfl, q0, gf⟩ := z
  cases gT_r (τ := τ) (t := 3) (v := v0) rfl q0
  have z := all2_cons gf
  clear gf
  obtain ⟨v0, fs, rfl, q0, gf⟩ := z
  cases gT_r (τ := τ) (t := 4) (v := v0) rfl q0
  have z := all2_cons gf
  clear gf
  obtain ⟨v0, fs, rfl, q0, gf⟩ := z
  cases gT_r (τ := τ) (t := 5) (v := v0) rfl q0
  have z := all2_cons gf
  clear gf
  obtain ⟨v0, fs, rfl, q0, gf⟩ := z
  cases gT_r (τ := τ) (t := 6) (v := v0) rfl q0
  have z := all2_cons gf
  clear gf
  obtain ⟨v0, fs, rfl, q0, gf⟩ := z
  cases gT_r (τ := τ) (t := 7) (v := v0) rfl q0
  have z := all2_cons gf
  clear gf
  obtain ⟨v0, fs, rfl, q0, gf⟩ := z
  obtain ⟨M_stampMany, rfl, b_M_stampMany⟩ := q0
  have z := all2_cons gf
  clear gf
  obtain ⟨v0, fs, rfl, q0, gf⟩ := z
  cases (q0 : v0 = .inr (some (.inl 1)))
  have z := all2_cons gf
  clear gf
  obtain ⟨v0, fs, rfl, q0, gf⟩ := z
  obtain ⟨M_taped, rfl, b_M_taped⟩ := q0
  have z := all2_cons gf
  clear gf
  obtain ⟨v0, fs, rfl, q0, gf⟩ := z
  obtain ⟨M_place0, rfl, b_M_place0⟩ := q0
  have z := all2_cons gf
  clear gf
  obtain ⟨v0, fs, rfl, q0, gf⟩ := z
  obtain ⟨M_length0, rfl, b_M_length0⟩ := q0
  have z := all2_cons gf
  clear gf
  obtain ⟨v0, fs, rfl, q0, gf⟩ := z
  obtain ⟨M_fault, rfl, b_M_fault⟩ := q0
  have z := all2_cons gf
  clear gf
  obtain ⟨v0, fs, rfl, q0, gf⟩ := z
  obtain ⟨M_number0, rfl, b_M_number0⟩ := q0
  have z := all2_cons gf
  clear gf
  obtain ⟨v0, fs, rfl, q0, gf⟩ := z
  obtain ⟨M_open, rfl, b_M_open⟩ := q0
  have z := all2_cons gf
  clear gf
  obtain ⟨v0, fs, rfl, q0, gf⟩ := z
  obtain ⟨M_codeMany, rfl, b_M_codeMany⟩ := q0
  have z := all2_cons gf
  clear gf
  obtain ⟨v0, fs, rfl, q0, gf⟩ := z
  obtain ⟨M_waiting, rfl, b_M_waiting⟩ := q0
  have z := all2_cons gf
  clear gf
  obtain ⟨v0, fs, rfl, q0, gf⟩ := z
  obtain ⟨M_saidMany, rfl, b_M_saidMany⟩ := q0
  have z := all2_cons gf
  clear gf
  obtain ⟨v0, fs, rfl, q0, gf⟩ := z
  obtain ⟨M_clauses, rfl, e_M_clauses, b_M_clauses⟩ := gT_x (τ := τ) (t := 200) (v := v0) rfl q0
  have z := all2_cons gf
  clear gf
  obtain ⟨v0, fs, rfl, q0, gf⟩ := z
  cases gT_r (τ := τ) (t := 8) (v := v0) rfl q0
  have z := all2_cons gf
  clear gf
  obtain ⟨v0, fs, rfl, q0, gf⟩ := z
  cases gT_r (τ := τ) (t := 9) (v := v0) rfl q0
  have z := all2_cons gf
  clear gf
  obtain ⟨v0, fs, rfl, q0, gf⟩ := z
  cases gT_r (τ := τ) (t := 10) (v := v0) rfl q0
  have z := all2_cons gf
  clear gf
  obtain ⟨v0, fs, rfl, q0, gf⟩ := z
  cases gT_r (τ := τ) (t := 11) (v := v0) rfl q0
  have z := all2_cons gf
  clear gf
  obtain ⟨v0, fs, rfl, q0, gf⟩ := z
  cases gT_r (τ := τ) (t := 12) (v := v0) rfl q0
  have z := all2_cons gf
  clear gf
  obtain ⟨v0, fs, rfl, q0, gf⟩ := z
  cases gT_r (τ := τ) (t := 13) (v := v0) rfl q0
  have z := all2_cons gf
  clear gf
  obtain ⟨v0, fs, rfl, q0, gf⟩ := z
  cases gT_r (τ := τ) (t := 14) (v := v0) rfl q0
  have z := all2_cons gf
  clear gf
  obtain ⟨v0, fs, rfl, q0, gf⟩ := z
  cases gT_r (τ := τ) (t := 15) (v := v0) rfl q0
  have z := all2_cons gf
  clear gf
  obtain ⟨v0, fs, rfl, q0, gf⟩ := z
  cases gT_r (τ := τ) (t := 16) (v := v0) rfl q0
  have z := all2_cons gf
  clear gf
  obtain ⟨v0, fs, rfl, q0, gf⟩ := z
  cases gT_r (τ := τ) (t := 17) (v := v0) rfl q0
  have z := all2_cons gf
  clear gf
  obtain ⟨v0, fs, rfl, q0, gf⟩ := z
  cases gT_r (τ := τ) (t := 18) (v := v0) rfl q0
  have z := all2_cons gf
  clear gf
  obtain ⟨v0, fs, rfl, q0, gf⟩ := z
  cases gT_r (τ := τ) (t := 19) (v := v0) rfl q0
  have z := all2_cons gf
  clear gf
  obtain ⟨v0, fs, rfl, q0, gf⟩ := z
  cases gT_r (τ := τ) (t := 20) (v := v0) rfl q0
  have z := all2_cons gf
  clear gf
  obtain ⟨v0, fs, rfl, q0, gf⟩ := z
  cases gT_r (τ := τ) (t := 21) (v := v0) rfl q0
  have z := all2_cons gf
  clear gf
  obtain ⟨v0, fs, rfl, q0, gf⟩ := z
  cases gT_r (τ := τ) (t := 22) (v := v0) rfl q0
  have z := all2_cons gf
  clear gf
  obtain ⟨v0, fs, rfl, q0, gf⟩ := z
  cases gT_r (τ := τ) (t := 23) (v := v0) rfl q0
  have z := all2_cons gf
  clear gf
  obtain ⟨v0, fs, rfl, q0, gf⟩ := z
  cases gT_r (τ := τ) (t := 24) (v := v0) rfl q0
  have z := all2_cons gf
  clear gf
  obtain ⟨v0, fs, rfl, q0, gf⟩ := z
  obtain ⟨M_newMany, rfl, b_M_newMany⟩ := q0
  have z := all2_cons gf
  clear gf
  obtain ⟨v0, fs, rfl, q0, gf⟩ := z
  obtain ⟨M_rounds, rfl, b_M_rounds⟩ := q0
  have z := all2_cons gf
  clear gf
  obtain ⟨v0, fs, rfl, q0, gf⟩ := z
  obtain ⟨M_stampFrom, rfl, b_M_stampFrom⟩ := q0
  have z := all2_cons gf
  clear gf
  obtain ⟨v0, fs, rfl, q0, gf⟩ := z
  obtain ⟨M_stampTimes, rfl, b_M_stampTimes⟩ := q0
  have z := all2_cons gf
  clear gf
  obtain ⟨v0, fs, rfl, q0, gf⟩ := z
  obtain ⟨M_lines, rfl, b_M_lines⟩ := q0
  have z := all2_cons gf
  clear gf
  obtain ⟨v0, fs, rfl, q0, gf⟩ := z
  obtain ⟨M_spot0, rfl, b_M_spot0⟩ := q0
  have z := all2_cons gf
  clear gf
  obtain ⟨v0, fs, rfl, q0, gf⟩ := z
  obtain ⟨M_pullAcross, rfl, b_M_pullAcross⟩ := q0
  have z := all2_cons gf
  clear gf
  obtain ⟨v0, fs, rfl, q0, gf⟩ := z
  obtain ⟨M_pullAlong, rfl, b_M_pullAlong⟩ := q0
  have z := all2_cons gf
  clear gf
  obtain ⟨v0, fs, rfl, q0, gf⟩ := z
  obtain ⟨M_stepsNow, rfl, b_M_stepsNow⟩ := q0
  have z := all2_cons gf
  clear gf
  obtain ⟨v0, fs, rfl, q0, gf⟩ := z
  obtain ⟨M_fallenNow, rfl, b_M_fallenNow⟩ := q0
  have z := all2_cons gf
  clear gf
  obtain ⟨v0, fs, rfl, q0, gf⟩ := z
  cases gT_r (τ := τ) (t := 25) (v := v0) rfl q0
  have z := all2_cons gf
  clear gf
  obtain ⟨v0, fs, rfl, q0, gf⟩ := z
  cases gT_r (τ := τ) (t := 26) (v := v0) rfl q0
  have z := all2_cons gf
  clear gf
  obtain ⟨v0, fs, rfl, q0, gf⟩ := z
  cases gT_r (τ := τ) (t := 27) (v := v0) rfl q0
  have z := all2_cons gf
  clear gf
  obtain ⟨v0, fs, rfl, q0, gf⟩ := z
  cases gT_r (τ := τ) (t := 28) (v := v0) rfl q0
  have z := all2_cons gf
  clear gf
  obtain ⟨v0, fs, rfl, q0, gf⟩ := z
  cases gT_r (τ := τ) (t := 29) (v := v0) rfl q0
  have z := all2_cons gf
  clear gf
  obtain ⟨v0, fs, rfl, q0, gf⟩ := z
  obtain ⟨M_isKept, rfl, e_M_isKept, b_M_isKept⟩ := gT_x (τ := τ) (t := 201) (v := v0) rfl q0
  cases fs with
  | cons _ _ => exact gf.elim
  | nil =>
    have z := all2_cons hh
    clear hh
    obtain ⟨e1, h, rfl, g1, hh⟩ := z
    rcases e1 with ⟨t1, n1, M_tape⟩ | ⟨ci, fs⟩
    rotate_left
    · exact g1.elim
    obtain ⟨et, en, b_M_tape⟩ := g1
    cases (et : t1 = 1)
    cases en
    cases h with
    | cons _ _ => exact hh.elim
    | nil =>
      obtain rfl : M_taped = nI 260 := i32eq.mpr (show M_taped.toInt = 260 by omega)
      refine n_X12_feed.mono (fun r h' hp => ?_)
      obtain ⟨rfl, rfl⟩ := hp
      exact ⟨τ, -1, hΦ, fun _ _ => rfl, rfl, rfl, ⟨⟨rfl, rfl, rfl, rfl, rfl, rfl, rfl, rfl, rfl, ⟨_, rfl, b_M_stampMany⟩, rfl, ⟨_, rfl, b_M_taped⟩, ⟨_, rfl, b_M_place0⟩, ⟨_, rfl, b_M_length0⟩, ⟨_, rfl, b_M_fault⟩, ⟨_, rfl, b_M_number0⟩, ⟨_, rfl, b_M_open⟩, ⟨_, rfl, b_M_codeMany⟩, ⟨_, rfl, b_M_waiting⟩, ⟨_, rfl, b_M_saidMany⟩, gT_mk rfl e_M_clauses b_M_clauses, rfl, rfl, rfl, rfl, rfl, rfl, rfl, rfl, rfl, rfl, rfl, rfl, rfl, rfl, rfl, rfl, rfl, ⟨_, rfl, b_M_newMany⟩, ⟨_, rfl, b_M_rounds⟩, ⟨_, rfl, b_M_stampFrom⟩, ⟨_, rfl, b_M_stampTimes⟩, ⟨_, rfl, b_M_lines⟩, ⟨_, rfl, b_M_spot0⟩, ⟨_, rfl, b_M_pullAcross⟩, ⟨_, rfl, b_M_pullAlong⟩, ⟨_, rfl, b_M_stepsNow⟩, ⟨_, rfl, b_M_fallenNow⟩, rfl, rfl, rfl, rfl, rfl, gT_mk rfl e_M_isKept b_M_isKept, trivial⟩, ⟨rfl, rfl, b_M_tape⟩, trivial⟩⟩

theorem nr48 {c : Nat} (h : c ≤ 48) : 0 ≤ (nI c).toInt ∧ (nI c).toInt ≤ 48 := by rw [nI_toInt (by omega)]; omega
theorem nr240 {c : Nat} (h : c ≤ 240) : 0 ≤ (nI c).toInt ∧ (nI c).toInt ≤ 240 := by rw [nI_toInt (by omega)]; omega
def HX_sheet20C : List AC := hc_7f4b904ed0
def HY_sheet20C : List AC := hc_5130b8b1e6
set_option maxRecDepth 100000 in
theorem x_sheet20C {l : Launch} {n : Nat} (h1 : 1 ≤ n ∧ n ≤ 20) : conOkX (MetP l 102 yX11_sheet cX11_sheet 3 (some .int) 0 0) [nI n] HX_sheet20C HY_sheet20C (fun _ => false) (fun _ => True) (fun τ _ y => shY (ob (decA (τ 250))) n y) := by
  intro τ hΦ hP h hh
  have z := all2_cons hh
  clear hh
  obtain ⟨e0, h, rfl, g0, hh⟩ := z
  rcases e0 with ⟨t0, n0, f0⟩ | ⟨ci, fs⟩
  · exact g0.elim
  obtain ⟨rfl, gf⟩ := g0
  have z := all2_cons gf
  clear gf
  obtain ⟨v0, fs, rfl, q0, gf⟩ := z
  cases (q0 : v0 = .inr (some (.inl 1)))
  have z := all2_cons gf
  clear gf
  obtain ⟨v0, fs, rfl, q0, gf⟩ := z
  cases (q0 : v0 = .inr (some (.inl 6)))
  have z := all2_cons gf
  clear gf
  obtain ⟨v0, fs, rfl, q0, gf⟩ := z
  cases (q0 : v0 = .inr (some (.inl 12)))
  have z := all2_cons gf
  clear gf
  obtain ⟨v0, fs, rfl, q0, gf⟩ := z
  cases gT_r (τ := τ) (t := 0) (v := v0) rfl q0
  have z := all2_cons gf
  clear gf
  obtain ⟨v0, fs, rfl, q0, gf⟩ := z
  cases gT_r (τ := τ) (t := 1) (v := v0) rfl q0
  have z := all2_cons gf
  clear gf
  obtain ⟨v0, fs, rfl, q0, gf⟩ := z
  cases gT_r (τ := τ) (t := 2) (v := v0) rfl q0
  have z := all2_cons gf
  clear gf
  obtain ⟨v0, fs, rfl, q0, gf⟩ := z
  cases gT_r (τ := τ) (t := 3) (v := v0) rfl q0
  have z := all2_cons gf
  clear gf
  obtain ⟨v0, fs, rfl, q0, gf⟩ := z
  cases gT_r (τ := τ) (t := 4) (v := v0) rfl q0
  have z := all2_cons gf
  clear gf
  obtain ⟨v0, fs, rfl, q0, gf⟩ := z
  cases (q0 : v0 = .inr (some (.inl 3)))
  have z := all2_cons gf
  clear gf
  obtain ⟨v0, fs, rfl, q0, gf⟩ := z
  cases gT_r (τ := τ) (t := 5) (v := v0) rfl q0
  have z := all2_cons gf
  clear gf
  obtain ⟨v0, fs, rfl, q0, gf⟩ := z
  cases gT_r (τ := τ) (t := 6) (v := v0) rfl q0
  have z := all2_cons gf
  clear gf
  obtain ⟨v0, fs, rfl, q0, gf⟩ := z
  cases gT_r (τ := τ) (t := 7) (v := v0) rfl q0
  have z := all2_cons gf
  clear gf
  obtain ⟨v0, fs, rfl, q0, gf⟩ := z
  cases gT_r (τ := τ) (t := 8) (v := v0) rfl q0
  have z := all2_cons gf
  clear gf
  obtain ⟨v0, fs, rfl, q0, gf⟩ := z
  cases gT_r (τ := τ) (t := 9) (v := v0) rfl q0
  have z := all2_cons gf
  clear gf
  obtain ⟨v0, fs, rfl, q0, gf⟩ := z
  obtain ⟨HS_wasKept, rfl, e_HS_wasKept, b_HS_wasKept⟩ := gT_x (τ := τ) (t := 201) (v := v0) rfl q0
  cases fs with
  | cons _ _ => exact gf.elim
  | nil =>
    have z := all2_cons hh
    clear hh
    obtain ⟨e0, h, rfl, g0, hh⟩ := z
    rcases e0 with ⟨t0, n0, f0⟩ | ⟨ci, fs⟩
    · exact g0.elim
    obtain ⟨rfl, gf⟩ := g0
    have z := all2_cons gf
    clear gf
    obtain ⟨v0, fs, rfl, q0, gf⟩ := z
    cases (q0 : v0 = .inr (some (.inl 2)))
    have z := all2_cons gf
    clear gf
    obtain ⟨v0, fs, rfl, q0, gf⟩ := z
    obtain ⟨Tape_size, rfl, b_Tape_size⟩ := q0
    cases fs with
    | cons _ _ => exact gf.elim
    | nil =>
      have z := all2_cons hh
      clear hh
      obtain ⟨e1, h, rfl, g1, hh⟩ := z
      rcases e1 with ⟨t1, n1, Tape_bytes⟩ | ⟨ci, fs⟩
      rotate_left
      · exact g1.elim
      obtain ⟨et, en, b_Tape_bytes⟩ := g1
      cases (et : t1 = 0)
      cases en
      have z := all2_cons hh
      clear hh
      obtain ⟨e0, h, rfl, g0, hh⟩ := z
      rcases e0 with ⟨t0, n0, f0⟩ | ⟨ci, fs⟩
      · exact g0.elim
      obtain ⟨rfl, gf⟩ := g0
      have z := all2_cons gf
      clear gf
      obtain ⟨v0, fs, rfl, q0, gf⟩ := z
      cases (q0 : v0 = .inr (some (.inl 2)))
      have z := all2_cons gf
      clear gf
      obtain ⟨v0, fs, rfl, q0, gf⟩ := z
      obtain ⟨SR_end, rfl, b_SR_end⟩ := q0
      have z := all2_cons gf
      clear gf
      obtain ⟨v0, fs, rfl, q0, gf⟩ := z
      obtain ⟨SR_at, rfl, b_SR_at⟩ := q0
      have z := all2_cons gf
      clear gf
      obtain ⟨v0, fs, rfl, q0, gf⟩ := z
      obtain ⟨SR_ahead, rfl, b_SR_ahead⟩ := q0
      have z := all2_cons gf
      clear gf
      obtain ⟨v0, fs, rfl, q0, gf⟩ := z
      obtain ⟨SR_fault, rfl, b_SR_fault⟩ := q0
      have z := all2_cons gf
      clear gf
      obtain ⟨v0, fs, rfl, q0, gf⟩ := z
      cases (q0 : v0 = .inr (some (.inl 4)))
      have z := all2_cons gf
      clear gf
      obtain ⟨v0, fs, rfl, q0, gf⟩ := z
      cases (q0 : v0 = .inr (some (.inl 5)))
      have z := all2_cons gf
      clear gf
      obtain ⟨v0, fs, rfl, q0, gf⟩ := z
      obtain ⟨SR_size, rfl, b_SR_size⟩ := q0
      cases fs with
      | cons _ _ => exact gf.elim
      | nil =>
        have z := all2_cons hh
        clear hh
        obtain ⟨e1, h, rfl, g1, hh⟩ := z
        rcases e1 with ⟨t1, n1, SR_mint⟩ | ⟨ci, fs⟩
        rotate_left
        · exact g1.elim
        obtain ⟨et, en, b_SR_mint⟩ := g1
        cases (et : t1 = 0)
        cases en
        have z := all2_cons hh
        clear hh
        obtain ⟨e1, h, rfl, g1, hh⟩ := z
        rcases e1 with ⟨t1, n1, SR_grains⟩ | ⟨ci, fs⟩
        rotate_left
        · exact g1.elim
        obtain ⟨et, en, b_SR_grains⟩ := g1
        cases (et : t1 = 0)
        cases en
        have z := all2_cons hh
        clear hh
        obtain ⟨e0, h, rfl, g0, hh⟩ := z
        rcases e0 with ⟨t0, n0, f0⟩ | ⟨ci, fs⟩
        · exact g0.elim
        obtain ⟨rfl, gf⟩ := g0
        have z := all2_cons gf
        clear gf
        obtain ⟨v0, fs, rfl, q0, gf⟩ := z
        cases (q0 : v0 = .inr (some (.inl 7)))
        have z := all2_cons gf
        clear gf
        obtain ⟨v0, fs, rfl, q0, gf⟩ := z
        cases (q0 : v0 = .inr (some (.inl 8)))
        have z := all2_cons gf
        clear gf
        obtain ⟨v0, fs, rfl, q0, gf⟩ := z
        cases (q0 : v0 = .inr (some (.inl 9)))
        have z := all2_cons gf
        clear gf
        obtain ⟨v0, fs, rfl, q0, gf⟩ := z
        cases (q0 : v0 = .inr (some (.inl 10)))
        have z := all2_cons gf
        clear gf
        obtain ⟨v0, fs, rfl, q0, gf⟩ := z
        cases (q0 : v0 = .inr (some (.inl 11)))
        have z := all2_cons gf
        clear gf
        obtain ⟨v0, fs, rfl, q0, gf⟩ := z
        obtain ⟨Rep_toldMints, rfl, b_Rep_toldMints⟩ := q0
        have z := all2_cons gf
        clear gf
        obtain ⟨v0, fs, rfl, q0, gf⟩ := z
        obtain ⟨Rep_walls, rfl, b_Rep_walls⟩ := q0
        have z := all2_cons gf
        clear gf
        obtain ⟨v0, fs, rfl, q0, gf⟩ := z
        obtain ⟨Rep_stamps, rfl, b_Rep_stamps⟩ := q0
        cases fs with
        | cons _ _ => exact gf.elim
        | nil =>
          have z := all2_cons hh
          clear hh
          obtain ⟨e1, h, rfl, g1, hh⟩ := z
          rcases e1 with ⟨t1, n1, Rep_mintX⟩ | ⟨ci, fs⟩
          rotate_left
          · exact g1.elim
          obtain ⟨et, en, b_Rep_mintX⟩ := g1
          cases (et : t1 = 0)
          cases en
          have z := all2_cons hh
          clear hh
          obtain ⟨e1, h, rfl, g1, hh⟩ := z
          rcases e1 with ⟨t1, n1, Rep_mintY⟩ | ⟨ci, fs⟩
          rotate_left
          · exact g1.elim
          obtain ⟨et, en, b_Rep_mintY⟩ := g1
          cases (et : t1 = 0)
          cases en
          have z := all2_cons hh
          clear hh
          obtain ⟨e1, h, rfl, g1, hh⟩ := z
          rcases e1 with ⟨t1, n1, Rep_wall⟩ | ⟨ci, fs⟩
          rotate_left
          · exact g1.elim
          obtain ⟨et, en, b_Rep_wall⟩ := g1
          cases (et : t1 = 2)
          cases en
          have z := all2_cons hh
          clear hh
          obtain ⟨e1, h, rfl, g1, hh⟩ := z
          rcases e1 with ⟨t1, n1, Rep_mintOf⟩ | ⟨ci, fs⟩
          rotate_left
          · exact g1.elim
          obtain ⟨et, en, b_Rep_mintOf⟩ := g1
          cases (et : t1 = 0)
          cases en
          have z := all2_cons hh
          clear hh
          obtain ⟨e1, h, rfl, g1, hh⟩ := z
          rcases e1 with ⟨t1, n1, Rep_grainsOf⟩ | ⟨ci, fs⟩
          rotate_left
          · exact g1.elim
          obtain ⟨et, en, b_Rep_grainsOf⟩ := g1
          cases (et : t1 = 0)
          cases en
          have z := all2_cons hh
          clear hh
          obtain ⟨e0, h, rfl, g0, hh⟩ := z
          rcases e0 with ⟨t0, n0, f0⟩ | ⟨ci, fs⟩
          · exact g0.elim
          obtain ⟨rfl, gf⟩ := g0
          have z := all2_cons gf
          clear gf
          obtain ⟨v0, fs, rfl, q0, gf⟩ := z
          cases (q0 : v0 = .inr (some (.inl 13)))
          have z := all2_cons gf
          clear gf
          obtain ⟨v0, fs, rfl, q0, gf⟩ := z
          cases (q0 : v0 = .inr (some (.inl 14)))
          have z := all2_cons gf
          clear gf
          obtain ⟨v0, fs, rfl, q0, gf⟩ := z
          cases (q0 : v0 = .inr (some (.inl 15)))
          have z := all2_cons gf
          clear gf
          obtain ⟨v0, fs, rfl, q0, gf⟩ := z
          cases (q0 : v0 = .inr (some (.inl 16)))
          have z := all2_cons gf
          clear gf
          obtain ⟨v0, fs, rfl, q0, gf⟩ := z
          obtain ⟨Now_told, rfl, b_Now_told⟩ := q0
          have z := all2_cons gf
          clear gf
          obtain ⟨v0, fs, rfl, q0, gf⟩ := z
          obtain ⟨Now_walled, rfl, b_Now_walled⟩ := q0
          have z := all2_cons gf
          clear gf
          obtain ⟨v0, fs, rfl, q0, gf⟩ := z
          obtain ⟨Now_day, rfl, b_Now_day⟩ := q0
          have z := all2_cons gf
          clear gf
          obtain ⟨v0, fs, rfl, q0, gf⟩ := z
          obtain ⟨Now_drawState, rfl, b_Now_drawState⟩ := q0
          cases fs with
          | cons _ _ => exact gf.elim
          | nil =>
            have z := all2_cons hh
            clear hh
            obtain ⟨e1, h, rfl, g1, hh⟩ := z
            rcases e1 with ⟨t1, n1, Now_place⟩ | ⟨ci, fs⟩
            rotate_left
            · exact g1.elim
            obtain ⟨et, en, b_Now_place⟩ := g1
            cases (et : t1 = 0)
            cases en
            have z := all2_cons hh
            clear hh
            obtain ⟨e1, h, rfl, g1, hh⟩ := z
            rcases e1 with ⟨t1, n1, Now_paste⟩ | ⟨ci, fs⟩
            rotate_left
            · exact g1.elim
            obtain ⟨et, en, b_Now_paste⟩ := g1
            cases (et : t1 = 0)
            cases en
            have z := all2_cons hh
            clear hh
            obtain ⟨e1, h, rfl, g1, hh⟩ := z
            rcases e1 with ⟨t1, n1, Now_letter⟩ | ⟨ci, fs⟩
            rotate_left
            · exact g1.elim
            obtain ⟨et, en, b_Now_letter⟩ := g1
            cases (et : t1 = 0)
            cases en
            have z := all2_cons hh
            clear hh
            obtain ⟨e1, h, rfl, g1, hh⟩ := z
            rcases e1 with ⟨t1, n1, Now_used⟩ | ⟨ci, fs⟩
            rotate_left
            · exact g1.elim
            obtain ⟨et, en, b_Now_used⟩ := g1
            cases (et : t1 = 0)
            cases en
            cases h with
            | cons _ _ => exact hh.elim
            | nil =>
              obtain ⟨s, hs, rfl⟩ := rng_n (x := Tape_size) (k := 260) (by omega) b_Tape_size.2
              have es := sz_n (c := s) (by omega)
              obtain ⟨rF, eF⟩ := rg_x rfl b_Tape_bytes
              refine (c_X11_sheet (o := ob (decA (τ 250))) (s := s) h1.1 (by omega) hs (by omega) (fun i hi => ob_ok (by omega) (eF i (by omega)) (rF i (by omega)))).mono (fun r h' hp => ?_)
              obtain ⟨y, at_, ah, fa, sm, c, fm, fg, mo, gr, le, us, rfl, hc, kQ, hst, rfl⟩ := hp
              exact ⟨τ, y, hΦ, fun _ _ => rfl, rfl, kQ, ⟨⟨rfl, rfl, rfl, rfl, rfl, rfl, rfl, rfl, rfl, rfl, rfl, rfl, rfl, rfl, rfl, gT_mk rfl e_HS_wasKept b_HS_wasKept, trivial⟩, ⟨rfl, rfl, ⟨0, rfl, by decide, by decide⟩, trivial⟩, ⟨rfl, rfl, b_Tape_bytes⟩, ⟨rfl, rfl, topA_ok _, topA_ok _, topA_ok _, topA_ok _, rfl, rfl, ⟨_, rfl, nr48 hc⟩, trivial⟩, ⟨rfl, rfl, of_rg rg_top⟩, ⟨rfl, rfl, of_rg rg_top⟩, ⟨rfl, rfl, rfl, rfl, rfl, rfl, ⟨_, rfl, b_Rep_toldMints⟩, ⟨_, rfl, b_Rep_walls⟩, ⟨_, rfl, by rcases hst with z | z <;> rw [z.1] <;> first | exact b_Rep_stamps | exact nr48 hc⟩, trivial⟩, ⟨rfl, rfl, b_Rep_mintX⟩, ⟨rfl, rfl, b_Rep_mintY⟩, ⟨rfl, rfl, b_Rep_wall⟩, ⟨rfl, rfl, of_rg rg_top⟩, ⟨rfl, rfl, of_rg rg_top⟩, ⟨rfl, rfl, rfl, rfl, rfl, ⟨_, rfl, b_Now_told⟩, ⟨_, rfl, b_Now_walled⟩, ⟨_, rfl, b_Now_day⟩, ⟨_, rfl, b_Now_drawState⟩, trivial⟩, ⟨rfl, rfl, b_Now_place⟩, ⟨rfl, rfl, b_Now_paste⟩, ⟨rfl, rfl, of_rg rg_top⟩, ⟨rfl, rfl, of_rg rg_top⟩, trivial⟩⟩

def HX_sheet20R : List AC := hc_1581aab343
def HY_sheet20R : List AC := hc_179c969647
set_option maxRecDepth 100000 in
theorem x_sheet20R {l : Launch} {n : Nat} (h1 : 1 ≤ n ∧ n ≤ 20) : conOkX (MetP l 3 yX12_sheet cX12_sheet 4 (some .int) 0 0) [nI n] HX_sheet20R HY_sheet20R (fun _ => false) (fun _ => True) (fun τ _ y => shY (ob (fun i => f_and (decA (τ 251) i) 255)) n y) := by
  intro τ hΦ hP h hh
  have z := all2_cons hh
  clear hh
  obtain ⟨e0, h, rfl, g0, hh⟩ := z
  rcases e0 with ⟨t0, n0, f0⟩ | ⟨ci, fs⟩
  · exact g0.elim
  obtain ⟨rfl, gf⟩ := g0
  have z := all2_cons gf
  clear gf
  obtain ⟨v0, fs, rfl, q0, gf⟩ := z
  cases (q0 : v0 = .inr (some (.inl 1)))
  have z := all2_cons gf
  clear gf
  obtain ⟨v0, fs, rfl, q0, gf⟩ := z
  cases gT_r (τ := τ) (t := 0) (v := v0) rfl q0
  have z := all2_cons gf
  clear gf
  obtain ⟨v0, fs, rfl, q0, gf⟩ := z
  cases gT_r (τ := τ) (t := 1) (v := v0) rfl q0
  have z := all2_cons gf
  clear gf
  obtain ⟨v0, fs, rfl, q0, gf⟩ := z
  cases gT_r (τ := τ) (t := 2) (v := v0) rfl q0
  have z := all2_cons gf
  clear gf
  obtain ⟨v0, fs, rfl, q0, gf⟩ := z
  cases (q0 : v0 = .inr (some (.inl 2)))
  have z := all2_cons gf
  clear gf
  obtain ⟨v0, fs, rfl, q0, gf⟩ := z
  cases (q0 : v0 = .inr (some (.inl 3)))
  have z := all2_cons gf
  clear gf
  obtain ⟨v0, fs, rfl, q0, gf⟩ := z
  cases gT_r (τ := τ) (t := 3) (v := v0) rfl q0
  have z := all2_cons gf
  clear gf
  obtain ⟨v0, fs, rfl, q0, gf⟩ := z
  cases gT_r (τ := τ) (t := 4) (v := v0) rfl q0
  have z := all2_cons gf
  clear gf
  obtain ⟨v0, fs, rfl, q0, gf⟩ := z
  obtain ⟨M_stampMany, rfl, b_M_stampMany⟩ := q0
  have z := all2_cons gf
  clear gf
  obtain ⟨v0, fs, rfl, q0, gf⟩ := z
  cases (q0 : v0 = .inr (some (.inl 4)))
  have z := all2_cons gf
  clear gf
  obtain ⟨v0, fs, rfl, q0, gf⟩ := z
  obtain ⟨M_taped, rfl, b_M_taped⟩ := q0
  have z := all2_cons gf
  clear gf
  obtain ⟨v0, fs, rfl, q0, gf⟩ := z
  obtain ⟨M_place0, rfl, b_M_place0⟩ := q0
  have z := all2_cons gf
  clear gf
  obtain ⟨v0, fs, rfl, q0, gf⟩ := z
  obtain ⟨M_length0, rfl, b_M_length0⟩ := q0
  have z := all2_cons gf
  clear gf
  obtain ⟨v0, fs, rfl, q0, gf⟩ := z
  obtain ⟨M_fault, rfl, b_M_fault⟩ := q0
  have z := all2_cons gf
  clear gf
  obtain ⟨v0, fs, rfl, q0, gf⟩ := z
  obtain ⟨M_number0, rfl, b_M_number0⟩ := q0
  have z := all2_cons gf
  clear gf
  obtain ⟨v0, fs, rfl, q0, gf⟩ := z
  obtain ⟨M_open, rfl, b_M_open⟩ := q0
  have z := all2_cons gf
  clear gf
  obtain ⟨v0, fs, rfl, q0, gf⟩ := z
  obtain ⟨M_codeMany, rfl, b_M_codeMany⟩ := q0
  have z := all2_cons gf
  clear gf
  obtain ⟨v0, fs, rfl, q0, gf⟩ := z
  obtain ⟨M_waiting, rfl, b_M_waiting⟩ := q0
  have z := all2_cons gf
  clear gf
  obtain ⟨v0, fs, rfl, q0, gf⟩ := z
  obtain ⟨M_saidMany, rfl, b_M_saidMany⟩ := q0
  have z := all2_cons gf
  clear gf
  obtain ⟨v0, fs, rfl, q0, gf⟩ := z
  obtain ⟨M_clauses, rfl, e_M_clauses, b_M_clauses⟩ := gT_x (τ := τ) (t := 200) (v := v0) rfl q0
  have z := all2_cons gf
  clear gf
  obtain ⟨v0, fs, rfl, q0, gf⟩ := z
  cases gT_r (τ := τ) (t := 5) (v := v0) rfl q0
  have z := all2_cons gf
  clear gf
  obtain ⟨v0, fs, rfl, q0, gf⟩ := z
  cases gT_r (τ := τ) (t := 6) (v := v0) rfl q0
  have z := all2_cons gf
  clear gf
  obtain ⟨v0, fs, rfl, q0, gf⟩ := z
  cases gT_r (τ := τ) (t := 7) (v := v0) rfl q0
  have z := all2_cons gf
  clear gf
  obtain ⟨v0, fs, rfl, q0, gf⟩ := z
  cases gT_r (τ := τ) (t := 8) (v := v0) rfl q0
  have z := all2_cons gf
  clear gf
  obtain ⟨v0, fs, rfl, q0, gf⟩ := z
  cases gT_r (τ := τ) (t := 9) (v := v0) rfl q0
  have z := all2_cons gf
  clear gf
  obtain ⟨v0, fs, rfl, q0, gf⟩ := z
  cases gT_r (τ := τ) (t := 10) (v := v0) rfl q0
  have z := all2_cons gf
  clear gf
  obtain ⟨v0, fs, rfl, q0, gf⟩ := z
  cases gT_r (τ := τ) (t := 11) (v := v0) rfl q0
  have z := all2_cons gf
  clear gf
  obtain ⟨v0, fs, rfl, q0, gf⟩ := z
  cases gT_r (τ := τ) (t := 12) (v := v0) rfl q0
  have z := all2_cons gf
  clear gf
  obtain ⟨v0, fs, rfl, q0, gf⟩ := z
  cases gT_r (τ := τ) (t := 13) (v := v0) rfl q0
  have z := all2_cons gf
  clear gf
  obtain ⟨v0, fs, rfl, q0, gf⟩ := z
  cases gT_r (τ := τ) (t := 14) (v := v0) rfl q0
  have z := all2_cons gf
  clear gf
  obtain ⟨v0, fs, rfl, q0, gf⟩ := z
  cases gT_r (τ := τ) (t := 15) (v := v0) rfl q0
  have z := all2_cons gf
  clear gf
  obtain ⟨v0, fs, rfl, q0, gf⟩ := z
  cases gT_r (τ := τ) (t := 16) (v := v0) rfl q0
  have z := all2_cons gf
  clear gf
  obtain ⟨v0, fs, rfl, q0, gf⟩ := z
  cases gT_r (τ := τ) (t := 17) (v := v0) rfl q0
  have z := all2_cons gf
  clear gf
  obtain ⟨v0, fs, rfl, q0, gf⟩ := z
  cases (q0 : v0 = .inr (some (.inl 5)))
  have z := all2_cons gf
  clear gf
  obtain ⟨v0, fs, rfl, q0, gf⟩ := z
  cases (q0 : v0 = .inr (some (.inl 6)))
  have z := all2_cons gf
  clear gf
  obtain ⟨v0, fs, rfl, q0, gf⟩ := z
  cases (q0 : v0 = .inr (some (.inl 7)))
  have z := all2_cons gf
  clear gf
  obtain ⟨v0, fs, rfl, q0, gf⟩ := z
  cases (q0 : v0 = .inr (some (.inl 8)))
  have z := all2_cons gf
  clear gf
  obtain ⟨v0, fs, rfl, q0, gf⟩ := z
  obtain ⟨M_newMany, rfl, b_M_newMany⟩ := q0
  have z := all2_cons gf
  clear gf
  obtain ⟨v0, fs, rfl, q0, gf⟩ := z
  obtain ⟨M_rounds, rfl, b_M_rounds⟩ := q0
  have z := all2_cons gf
  clear gf
  obtain ⟨v0, fs, rfl, q0, gf⟩ := z
  obtain ⟨M_stampFrom, rfl, b_M_stampFrom⟩ := q0
  have z := all2_cons gf
  clear gf
  obtain ⟨v0, fs, rfl, q0, gf⟩ := z
  obtain ⟨M_stampTimes, rfl, b_M_stampTimes⟩ := q0
  have z := all2_cons gf
  clear gf
  obtain ⟨v0, fs, rfl, q0, gf⟩ := z
  obtain ⟨M_lines, rfl, b_M_lines⟩ := q0
  have z := all2_cons gf
  clear gf
  obtain ⟨v0, fs, rfl, q0, gf⟩ := z
  obtain ⟨M_spot0, rfl, b_M_spot0⟩ := q0
  have z := all2_cons gf
  clear gf
  obtain ⟨v0, fs, rfl, q0, gf⟩ := z
  obtain ⟨M_pullAcross, rfl, b_M_pullAcross⟩ := q0
  have z := all2_cons gf
  clear gf
  obtain ⟨v0, fs, rfl, q0, gf⟩ := z
  obtain ⟨M_pullAlong, rfl, b_M_pullAlong⟩ := q0
  have z := all2_cons gf
  clear gf
  obtain ⟨v0, fs, rfl, q0, gf⟩ := z
  obtain ⟨M_stepsNow, rfl, b_M_stepsNow⟩ := q0
  have z := all2_cons gf
  clear gf
  obtain ⟨v0, fs, rfl, q0, gf⟩ := z
  obtain ⟨M_fallenNow, rfl, b_M_fallenNow⟩ := q0
  have z := all2_cons gf
  clear gf
  obtain ⟨v0, fs, rfl, q0, gf⟩ := z
  cases gT_r (τ := τ) (t := 18) (v := v0) rfl q0
  have z := all2_cons gf
  clear gf
  obtain ⟨v0, fs, rfl, q0, gf⟩ := z
  cases gT_r (τ := τ) (t := 19) (v := v0) rfl q0
  have z := all2_cons gf
  clear gf
  obtain ⟨v0, fs, rfl, q0, gf⟩ := z
  cases gT_r (τ := τ) (t := 20) (v := v0) rfl q0
  have z := all2_cons gf
  clear gf
  obtain ⟨v0, fs, rfl, q0, gf⟩ := z
  cases gT_r (τ := τ) (t := 21) (v := v0) rfl q0
  have z := all2_cons gf
  clear gf
  obtain ⟨v0, fs, rfl, q0, gf⟩ := z
  cases gT_r (τ := τ) (t := 22) (v := v0) rfl q0
  have z := all2_cons gf
  clear gf
  obtain ⟨v0, fs, rfl, q0, gf⟩ := z
  obtain ⟨M_isKept, rfl, e_M_isKept, b_M_isKept⟩ := gT_x (τ := τ) (t := 201) (v := v0) rfl q0
  cases fs with
  | cons _ _ => exact gf.elim
  | nil =>
    have z := all2_cons hh
    clear hh
    obtain ⟨e1, h, rfl, g1, hh⟩ := z
    rcases e1 with ⟨t1, n1, M_now⟩ | ⟨ci, fs⟩
    rotate_left
    · exact g1.elim
    obtain ⟨et, en, b_M_now⟩ := g1
    cases (et : t1 = 0)
    cases en
    have z := all2_cons hh
    clear hh
    obtain ⟨e1, h, rfl, g1, hh⟩ := z
    rcases e1 with ⟨t1, n1, M_mintOf⟩ | ⟨ci, fs⟩
    rotate_left
    · exact g1.elim
    obtain ⟨et, en, b_M_mintOf⟩ := g1
    cases (et : t1 = 0)
    cases en
    have z := all2_cons hh
    clear hh
    obtain ⟨e1, h, rfl, g1, hh⟩ := z
    rcases e1 with ⟨t1, n1, M_wholeOf⟩ | ⟨ci, fs⟩
    rotate_left
    · exact g1.elim
    obtain ⟨et, en, b_M_wholeOf⟩ := g1
    cases (et : t1 = 0)
    cases en
    have z := all2_cons hh
    clear hh
    obtain ⟨e1, h, rfl, g1, hh⟩ := z
    rcases e1 with ⟨t1, n1, M_tape⟩ | ⟨ci, fs⟩
    rotate_left
    · exact g1.elim
    obtain ⟨et, en, b_M_tape⟩ := g1
    cases (et : t1 = 1)
    cases en
    have z := all2_cons hh
    clear hh
    obtain ⟨e1, h, rfl, g1, hh⟩ := z
    rcases e1 with ⟨t1, n1, M_newStamps⟩ | ⟨ci, fs⟩
    rotate_left
    · exact g1.elim
    obtain ⟨et, en, b_M_newStamps⟩ := g1
    cases (et : t1 = 0)
    cases en
    have z := all2_cons hh
    clear hh
    obtain ⟨e1, h, rfl, g1, hh⟩ := z
    rcases e1 with ⟨t1, n1, M_roundFrom⟩ | ⟨ci, fs⟩
    rotate_left
    · exact g1.elim
    obtain ⟨et, en, b_M_roundFrom⟩ := g1
    cases (et : t1 = 0)
    cases en
    have z := all2_cons hh
    clear hh
    obtain ⟨e1, h, rfl, g1, hh⟩ := z
    rcases e1 with ⟨t1, n1, M_roundAt⟩ | ⟨ci, fs⟩
    rotate_left
    · exact g1.elim
    obtain ⟨et, en, b_M_roundAt⟩ := g1
    cases (et : t1 = 0)
    cases en
    have z := all2_cons hh
    clear hh
    obtain ⟨e1, h, rfl, g1, hh⟩ := z
    rcases e1 with ⟨t1, n1, M_roundTimes⟩ | ⟨ci, fs⟩
    rotate_left
    · exact g1.elim
    obtain ⟨et, en, b_M_roundTimes⟩ := g1
    cases (et : t1 = 0)
    cases en
    cases h with
    | cons _ _ => exact hh.elim
    | nil =>
      obtain ⟨s, hs, rfl⟩ := rng_n (x := M_taped) (k := 260) (by omega) b_M_taped.2
      have es := sz_n (c := s) (by omega)
      obtain ⟨rF, eF⟩ := rg_x rfl b_M_tape
      refine (x_X12_sheet (b := ob (fun i => f_and (decA (τ 251) i) 255)) (s := s) h1.1 (by omega) hs (by omega) (fun i hi => ob_ok (f := fun i => f_and (decA (τ 251) i) 255) (F := fun i => f_and (M_tape i) 255) (by omega) (by show f_and (M_tape i) 255 = f_and (decA (τ 251) i) 255; rw [eF i (by omega)]) oct_rng) (seg_of b_M_now) (rg_of b_M_mintOf) (rg_of b_M_wholeOf) (rg_of b_M_newStamps) b_M_stampMany).mono (fun r h' hp => ?_)
      obtain ⟨y, nw, mo, wh, ns, rf, ra, rt, sm, pp, f, nm, rd, sf, st, rfl, kQ, hst, k1, k2, k3, k4, k5, k6, rfl⟩ := hp
      exact ⟨τ, y, hΦ, fun _ _ => rfl, rfl, kQ, ⟨⟨rfl, rfl, rfl, rfl, rfl, rfl, rfl, rfl, rfl, ⟨_, rfl, k5⟩, rfl, ⟨0, rfl, by decide, by decide⟩, ⟨_, rfl, k6⟩, ⟨_, rfl, nr240 (by omega)⟩, topA_ok _, ⟨_, rfl, b_M_number0⟩, ⟨_, rfl, b_M_open⟩, ⟨0, rfl, by decide, by decide⟩, ⟨_, rfl, b_M_waiting⟩, ⟨0, rfl, by decide, by decide⟩, gT_mk rfl e_M_clauses b_M_clauses, rfl, rfl, rfl, rfl, rfl, rfl, rfl, rfl, rfl, rfl, rfl, rfl, rfl, rfl, rfl, rfl, rfl, topA_ok _, topA_ok _, topA_ok _, topA_ok _, ⟨_, rfl, b_M_lines⟩, ⟨_, rfl, b_M_spot0⟩, ⟨_, rfl, b_M_pullAcross⟩, ⟨_, rfl, b_M_pullAlong⟩, ⟨_, rfl, b_M_stepsNow⟩, ⟨_, rfl, b_M_fallenNow⟩, rfl, rfl, rfl, rfl, rfl, gT_mk rfl e_M_isKept b_M_isKept, trivial⟩, ⟨rfl, rfl, of_seg k1⟩, ⟨rfl, rfl, of_rg k2⟩, ⟨rfl, rfl, of_rg k3⟩, ⟨rfl, rfl, b_M_tape⟩, ⟨rfl, rfl, of_rg k4⟩, ⟨rfl, rfl, of_rg rg_top⟩, ⟨rfl, rfl, of_rg rg_top⟩, ⟨rfl, rfl, of_rg rg_top⟩, trivial⟩⟩

def HX_sheet40C : List AC := hc_96d858994f
def HY_sheet40C : List AC := hc_5130b8b1e6
set_option maxRecDepth 100000 in
theorem x_sheet40C {l : Launch} {n : Nat} (h1 : 1 ≤ n ∧ n ≤ 40) : conOkX (MetP l 102 yX11_sheet cX11_sheet 3 (some .int) 0 0) [nI n] HX_sheet40C HY_sheet40C (fun _ => false) (fun _ => True) (fun τ _ y => shY (ob (decA (τ 250))) n y) := by
  intro τ hΦ hP h hh
  have z := all2_cons hh
  clear hh
  obtain ⟨e0, h, rfl, g0, hh⟩ := z
  rcases e0 with ⟨t0, n0, f0⟩ | ⟨ci, fs⟩
  · exact g0.elim
  obtain ⟨rfl, gf⟩ := g0
  have z := all2_cons gf
  clear gf
  obtain ⟨v0, fs, rfl, q0, gf⟩ := z
  cases (q0 : v0 = .inr (some (.inl 1)))
  have z := all2_cons gf
  clear gf
  obtain ⟨v0, fs, rfl, q0, gf⟩ := z
  cases (q0 : v0 = .inr (some (.inl 6)))
  have z := all2_cons gf
  clear gf
  obtain ⟨v0, fs, rfl, q0, gf⟩ := z
  cases (q0 : v0 = .inr (some (.inl 12)))
  have z := all2_cons gf
  clear gf
  obtain ⟨v0, fs, rfl, q0, gf⟩ := z
  cases gT_r (τ := τ) (t := 0) (v := v0) rfl q0
  have z := all2_cons gf
  clear gf
  obtain ⟨v0, fs, rfl, q0, gf⟩ := z
  cases gT_r (τ := τ) (t := 1) (v := v0) rfl q0
  have z := all2_cons gf
  clear gf
  obtain ⟨v0, fs, rfl, q0, gf⟩ := z
  cases gT_r (τ := τ) (t := 2) (v := v0) rfl q0
  have z := all2_cons gf
  clear gf
  obtain ⟨v0, fs, rfl, q0, gf⟩ := z
  cases gT_r (τ := τ) (t := 3) (v := v0) rfl q0
  have z := all2_cons gf
  clear gf
  obtain ⟨v0, fs, rfl, q0, gf⟩ := z
  cases gT_r (τ := τ) (t := 4) (v := v0) rfl q0
  have z := all2_cons gf
  clear gf
  obtain ⟨v0, fs, rfl, q0, gf⟩ := z
  cases (q0 : v0 = .inr (some (.inl 3)))
  have z := all2_cons gf
  clear gf
  obtain ⟨v0, fs, rfl, q0, gf⟩ := z
  cases gT_r (τ := τ) (t := 5) (v := v0) rfl q0
  have z := all2_cons gf
  clear gf
  obtain ⟨v0, fs, rfl, q0, gf⟩ := z
  cases gT_r (τ := τ) (t := 6) (v := v0) rfl q0
  have z := all2_cons gf
  clear gf
  obtain ⟨v0, fs, rfl, q0, gf⟩ := z
  cases gT_r (τ := τ) (t := 7) (v := v0) rfl q0
  have z := all2_cons gf
  clear gf
  obtain ⟨v0, fs, rfl, q0, gf⟩ := z
  cases gT_r (τ := τ) (t := 8) (v := v0) rfl q0
  have z := all2_cons gf
  clear gf
  obtain ⟨v0, fs, rfl, q0, gf⟩ := z
  cases gT_r (τ := τ) (t := 9) (v := v0) rfl q0
  have z := all2_cons gf
  clear gf
  obtain ⟨v0, fs, rfl, q0, gf⟩ := z
  obtain ⟨HS_wasKept, rfl, e_HS_wasKept, b_HS_wasKept⟩ := gT_x (τ := τ) (t := 201) (v := v0) rfl q0
  cases fs with
  | cons _ _ => exact gf.elim
  | nil =>
    have z := all2_cons hh
    clear hh
    obtain ⟨e0, h, rfl, g0, hh⟩ := z
    rcases e0 with ⟨t0, n0, f0⟩ | ⟨ci, fs⟩
    · exact g0.elim
    obtain ⟨rfl, gf⟩ := g0
    have z := all2_cons gf
    clear gf
    obtain ⟨v0, fs, rfl, q0, gf⟩ := z
    cases (q0 : v0 = .inr (some (.inl 2)))
    have z := all2_cons gf
    clear gf
    obtain ⟨v0, fs, rfl, q0, gf⟩ := z
    obtain ⟨Tape_size, rfl, b_Tape_size⟩ := q0
    cases fs with
    | cons _ _ => exact gf.elim
    | nil =>
      have z := all2_cons hh
      clear hh
      obtain ⟨e1, h, rfl, g1, hh⟩ := z
      rcases e1 with ⟨t1, n1, Tape_bytes⟩ | ⟨ci, fs⟩
      rotate_left
      · exact g1.elim
      obtain ⟨et, en, b_Tape_bytes⟩ := g1
      cases (et : t1 = 0)
      cases en
      have z := all2_cons hh
      clear hh
      obtain ⟨e0, h, rfl, g0, hh⟩ := z
      rcases e0 with ⟨t0, n0, f0⟩ | ⟨ci, fs⟩
      · exact g0.elim
      obtain ⟨rfl, gf⟩ := g0
      have z := all2_cons gf
      clear gf
      obtain ⟨v0, fs, rfl, q0, gf⟩ := z
      cases (q0 : v0 = .inr (some (.inl 2)))
      have z := all2_cons gf
      clear gf
      obtain ⟨v0, fs, rfl, q0, gf⟩ := z
      obtain ⟨SR_end, rfl, b_SR_end⟩ := q0
      have z := all2_cons gf
      clear gf
      obtain ⟨v0, fs, rfl, q0, gf⟩ := z
      obtain ⟨SR_at, rfl, b_SR_at⟩ := q0
      have z := all2_cons gf
      clear gf
      obtain ⟨v0, fs, rfl, q0, gf⟩ := z
      obtain ⟨SR_ahead, rfl, b_SR_ahead⟩ := q0
      have z := all2_cons gf
      clear gf
      obtain ⟨v0, fs, rfl, q0, gf⟩ := z
      obtain ⟨SR_fault, rfl, b_SR_fault⟩ := q0
      have z := all2_cons gf
      clear gf
      obtain ⟨v0, fs, rfl, q0, gf⟩ := z
      cases (q0 : v0 = .inr (some (.inl 4)))
      have z := all2_cons gf
      clear gf
      obtain ⟨v0, fs, rfl, q0, gf⟩ := z
      cases (q0 : v0 = .inr (some (.inl 5)))
      have z := all2_cons gf
      clear gf
      obtain ⟨v0, fs, rfl, q0, gf⟩ := z
      obtain ⟨SR_size, rfl, b_SR_size⟩ := q0
      cases fs with
      | cons _ _ => exact gf.elim
      | nil =>
        have z := all2_cons hh
        clear hh
        obtain ⟨e1, h, rfl, g1, hh⟩ := z
        rcases e1 with ⟨t1, n1, SR_mint⟩ | ⟨ci, fs⟩
        rotate_left
        · exact g1.elim
        obtain ⟨et, en, b_SR_mint⟩ := g1
        cases (et : t1 = 0)
        cases en
        have z := all2_cons hh
        clear hh
        obtain ⟨e1, h, rfl, g1, hh⟩ := z
        rcases e1 with ⟨t1, n1, SR_grains⟩ | ⟨ci, fs⟩
        rotate_left
        · exact g1.elim
        obtain ⟨et, en, b_SR_grains⟩ := g1
        cases (et : t1 = 0)
        cases en
        have z := all2_cons hh
        clear hh
        obtain ⟨e0, h, rfl, g0, hh⟩ := z
        rcases e0 with ⟨t0, n0, f0⟩ | ⟨ci, fs⟩
        · exact g0.elim
        obtain ⟨rfl, gf⟩ := g0
        have z := all2_cons gf
        clear gf
        obtain ⟨v0, fs, rfl, q0, gf⟩ := z
        cases (q0 : v0 = .inr (some (.inl 7)))
        have z := all2_cons gf
        clear gf
        obtain ⟨v0, fs, rfl, q0, gf⟩ := z
        cases (q0 : v0 = .inr (some (.inl 8)))
        have z := all2_cons gf
        clear gf
        obtain ⟨v0, fs, rfl, q0, gf⟩ := z
        cases (q0 : v0 = .inr (some (.inl 9)))
        have z := all2_cons gf
        clear gf
        obtain ⟨v0, fs, rfl, q0, gf⟩ := z
        cases (q0 : v0 = .inr (some (.inl 10)))
        have z := all2_cons gf
        clear gf
        obtain ⟨v0, fs, rfl, q0, gf⟩ := z
        cases (q0 : v0 = .inr (some (.inl 11)))
        have z := all2_cons gf
        clear gf
        obtain ⟨v0, fs, rfl, q0, gf⟩ := z
        obtain ⟨Rep_toldMints, rfl, b_Rep_toldMints⟩ := q0
        have z := all2_cons gf
        clear gf
        obtain ⟨v0, fs, rfl, q0, gf⟩ := z
        obtain ⟨Rep_walls, rfl, b_Rep_walls⟩ := q0
        have z := all2_cons gf
        clear gf
        obtain ⟨v0, fs, rfl, q0, gf⟩ := z
        obtain ⟨Rep_stamps, rfl, b_Rep_stamps⟩ := q0
        cases fs with
        | cons _ _ => exact gf.elim
        | nil =>
          have z := all2_cons hh
          clear hh
          obtain ⟨e1, h, rfl, g1, hh⟩ := z
          rcases e1 with ⟨t1, n1, Rep_mintX⟩ | ⟨ci, fs⟩
          rotate_left
          · exact g1.elim
          obtain ⟨et, en, b_Rep_mintX⟩ := g1
          cases (et : t1 = 0)
          cases en
          have z := all2_cons hh
          clear hh
          obtain ⟨e1, h, rfl, g1, hh⟩ := z
          rcases e1 with ⟨t1, n1, Rep_mintY⟩ | ⟨ci, fs⟩
          rotate_left
          · exact g1.elim
          obtain ⟨et, en, b_Rep_mintY⟩ := g1
          cases (et : t1 = 0)
          cases en
          have z := all2_cons hh
          clear hh
          obtain ⟨e1, h, rfl, g1, hh⟩ := z
          rcases e1 with ⟨t1, n1, Rep_wall⟩ | ⟨ci, fs⟩
          rotate_left
          · exact g1.elim
          obtain ⟨et, en, b_Rep_wall⟩ := g1
          cases (et : t1 = 2)
          cases en
          have z := all2_cons hh
          clear hh
          obtain ⟨e1, h, rfl, g1, hh⟩ := z
          rcases e1 with ⟨t1, n1, Rep_mintOf⟩ | ⟨ci, fs⟩
          rotate_left
          · exact g1.elim
          obtain ⟨et, en, b_Rep_mintOf⟩ := g1
          cases (et : t1 = 0)
          cases en
          have z := all2_cons hh
          clear hh
          obtain ⟨e1, h, rfl, g1, hh⟩ := z
          rcases e1 with ⟨t1, n1, Rep_grainsOf⟩ | ⟨ci, fs⟩
          rotate_left
          · exact g1.elim
          obtain ⟨et, en, b_Rep_grainsOf⟩ := g1
          cases (et : t1 = 0)
          cases en
          have z := all2_cons hh
          clear hh
          obtain ⟨e0, h, rfl, g0, hh⟩ := z
          rcases e0 with ⟨t0, n0, f0⟩ | ⟨ci, fs⟩
          · exact g0.elim
          obtain ⟨rfl, gf⟩ := g0
          have z := all2_cons gf
          clear gf
          obtain ⟨v0, fs, rfl, q0, gf⟩ := z
          cases (q0 : v0 = .inr (some (.inl 13)))
          have z := all2_cons gf
          clear gf
          obtain ⟨v0, fs, rfl, q0, gf⟩ := z
          cases (q0 : v0 = .inr (some (.inl 14)))
          have z := all2_cons gf
          clear gf
          obtain ⟨v0, fs, rfl, q0, gf⟩ := z
          cases (q0 : v0 = .inr (some (.inl 15)))
          have z := all2_cons gf
          clear gf
          obtain ⟨v0, fs, rfl, q0, gf⟩ := z
          cases (q0 : v0 = .inr (some (.inl 16)))
          have z := all2_cons gf
          clear gf
          obtain ⟨v0, fs, rfl, q0, gf⟩ := z
          obtain ⟨Now_told, rfl, b_Now_told⟩ := q0
          have z := all2_cons gf
          clear gf
          obtain ⟨v0, fs, rfl, q0, gf⟩ := z
          obtain ⟨Now_walled, rfl, b_Now_walled⟩ := q0
          have z := all2_cons gf
          clear gf
          obtain ⟨v0, fs, rfl, q0, gf⟩ := z
          obtain ⟨Now_day, rfl, b_Now_day⟩ := q0
          have z := all2_cons gf
          clear gf
          obtain ⟨v0, fs, rfl, q0, gf⟩ := z
          obtain ⟨Now_drawState, rfl, b_Now_drawState⟩ := q0
          cases fs with
          | cons _ _ => exact gf.elim
          | nil =>
            have z := all2_cons hh
            clear hh
            obtain ⟨e1, h, rfl, g1, hh⟩ := z
            rcases e1 with ⟨t1, n1, Now_place⟩ | ⟨ci, fs⟩
            rotate_left
            · exact g1.elim
            obtain ⟨et, en, b_Now_place⟩ := g1
            cases (et : t1 = 0)
            cases en
            have z := all2_cons hh
            clear hh
            obtain ⟨e1, h, rfl, g1, hh⟩ := z
            rcases e1 with ⟨t1, n1, Now_paste⟩ | ⟨ci, fs⟩
            rotate_left
            · exact g1.elim
            obtain ⟨et, en, b_Now_paste⟩ := g1
            cases (et : t1 = 0)
            cases en
            have z := all2_cons hh
            clear hh
            obtain ⟨e1, h, rfl, g1, hh⟩ := z
            rcases e1 with ⟨t1, n1, Now_letter⟩ | ⟨ci, fs⟩
            rotate_left
            · exact g1.elim
            obtain ⟨et, en, b_Now_letter⟩ := g1
            cases (et : t1 = 0)
            cases en
            have z := all2_cons hh
            clear hh
            obtain ⟨e1, h, rfl, g1, hh⟩ := z
            rcases e1 with ⟨t1, n1, Now_used⟩ | ⟨ci, fs⟩
            rotate_left
            · exact g1.elim
            obtain ⟨et, en, b_Now_used⟩ := g1
            cases (et : t1 = 0)
            cases en
            cases h with
            | cons _ _ => exact hh.elim
            | nil =>
              obtain ⟨s, hs, rfl⟩ := rng_n (x := Tape_size) (k := 260) (by omega) b_Tape_size.2
              have es := sz_n (c := s) (by omega)
              obtain ⟨rF, eF⟩ := rg_x rfl b_Tape_bytes
              refine (c_X11_sheet (o := ob (decA (τ 250))) (s := s) h1.1 (by omega) hs (by omega) (fun i hi => ob_ok (by omega) (eF i (by omega)) (rF i (by omega)))).mono (fun r h' hp => ?_)
              obtain ⟨y, at_, ah, fa, sm, c, fm, fg, mo, gr, le, us, rfl, hc, kQ, hst, rfl⟩ := hp
              exact ⟨τ, y, hΦ, fun _ _ => rfl, rfl, kQ, ⟨⟨rfl, rfl, rfl, rfl, rfl, rfl, rfl, rfl, rfl, rfl, rfl, rfl, rfl, rfl, rfl, gT_mk rfl e_HS_wasKept b_HS_wasKept, trivial⟩, ⟨rfl, rfl, ⟨0, rfl, by decide, by decide⟩, trivial⟩, ⟨rfl, rfl, b_Tape_bytes⟩, ⟨rfl, rfl, topA_ok _, topA_ok _, topA_ok _, topA_ok _, rfl, rfl, ⟨_, rfl, nr48 hc⟩, trivial⟩, ⟨rfl, rfl, of_rg rg_top⟩, ⟨rfl, rfl, of_rg rg_top⟩, ⟨rfl, rfl, rfl, rfl, rfl, rfl, ⟨_, rfl, b_Rep_toldMints⟩, ⟨_, rfl, b_Rep_walls⟩, ⟨_, rfl, by rcases hst with z | z <;> rw [z.1] <;> first | exact b_Rep_stamps | exact nr48 hc⟩, trivial⟩, ⟨rfl, rfl, b_Rep_mintX⟩, ⟨rfl, rfl, b_Rep_mintY⟩, ⟨rfl, rfl, b_Rep_wall⟩, ⟨rfl, rfl, of_rg rg_top⟩, ⟨rfl, rfl, of_rg rg_top⟩, ⟨rfl, rfl, rfl, rfl, rfl, ⟨_, rfl, b_Now_told⟩, ⟨_, rfl, b_Now_walled⟩, ⟨_, rfl, b_Now_day⟩, ⟨_, rfl, b_Now_drawState⟩, trivial⟩, ⟨rfl, rfl, b_Now_place⟩, ⟨rfl, rfl, b_Now_paste⟩, ⟨rfl, rfl, of_rg rg_top⟩, ⟨rfl, rfl, of_rg rg_top⟩, trivial⟩⟩

def HX_sheet40R : List AC := hc_363d7b4410
def HY_sheet40R : List AC := hc_179c969647
set_option maxRecDepth 100000 in
theorem x_sheet40R {l : Launch} {n : Nat} (h1 : 1 ≤ n ∧ n ≤ 40) : conOkX (MetP l 3 yX12_sheet cX12_sheet 4 (some .int) 0 0) [nI n] HX_sheet40R HY_sheet40R (fun _ => false) (fun _ => True) (fun τ _ y => shY (ob (fun i => f_and (decA (τ 251) i) 255)) n y) := by
  intro τ hΦ hP h hh
  have z := all2_cons hh
  clear hh
  obtain ⟨e0, h, rfl, g0, hh⟩ := z
  rcases e0 with ⟨t0, n0, f0⟩ | ⟨ci, fs⟩
  · exact g0.elim
  obtain ⟨rfl, gf⟩ := g0
  have z := all2_cons gf
  clear gf
  obtain ⟨v0, fs, rfl, q0, gf⟩ := z
  cases (q0 : v0 = .inr (some (.inl 1)))
  have z := all2_cons gf
  clear gf
  obtain ⟨v0, fs, rfl, q0, gf⟩ := z
  cases gT_r (τ := τ) (t := 0) (v := v0) rfl q0
  have z := all2_cons gf
  clear gf
  obtain ⟨v0, fs, rfl, q0, gf⟩ := z
  cases gT_r (τ := τ) (t := 1) (v := v0) rfl q0
  have z := all2_cons gf
  clear gf
  obtain ⟨v0, fs, rfl, q0, gf⟩ := z
  cases gT_r (τ := τ) (t := 2) (v := v0) rfl q0
  have z := all2_cons gf
  clear gf
  obtain ⟨v0, fs, rfl, q0, gf⟩ := z
  cases (q0 : v0 = .inr (some (.inl 2)))
  have z := all2_cons gf
  clear gf
  obtain ⟨v0, fs, rfl, q0, gf⟩ := z
  cases (q0 : v0 = .inr (some (.inl 3)))
  have z := all2_cons gf
  clear gf
  obtain ⟨v0, fs, rfl, q0, gf⟩ := z
  cases gT_r (τ := τ) (t := 3) (v := v0) rfl q0
  have z := all2_cons gf
  clear gf
  obtain ⟨v0, fs, rfl, q0, gf⟩ := z
  cases gT_r (τ := τ) (t := 4) (v := v0) rfl q0
  have z := all2_cons gf
  clear gf
  obtain ⟨v0, fs, rfl, q0, gf⟩ := z
  obtain ⟨M_stampMany, rfl, b_M_stampMany⟩ := q0
  have z := all2_cons gf
  clear gf
  obtain ⟨v0, fs, rfl, q0, gf⟩ := z
  cases (q0 : v0 = .inr (some (.inl 4)))
  have z := all2_cons gf
  clear gf
  obtain ⟨v0, fs, rfl, q0, gf⟩ := z
  obtain ⟨M_taped, rfl, b_M_taped⟩ := q0
  have z := all2_cons gf
  clear gf
  obtain ⟨v0, fs, rfl, q0, gf⟩ := z
  obtain ⟨M_place0, rfl, b_M_place0⟩ := q0
  have z := all2_cons gf
  clear gf
  obtain ⟨v0, fs, rfl, q0, gf⟩ := z
  obtain ⟨M_length0, rfl, b_M_length0⟩ := q0
  have z := all2_cons gf
  clear gf
  obtain ⟨v0, fs, rfl, q0, gf⟩ := z
  obtain ⟨M_fault, rfl, b_M_fault⟩ := q0
  have z := all2_cons gf
  clear gf
  obtain ⟨v0, fs, rfl, q0, gf⟩ := z
  obtain ⟨M_number0, rfl, b_M_number0⟩ := q0
  have z := all2_cons gf
  clear gf
  obtain ⟨v0, fs, rfl, q0, gf⟩ := z
  obtain ⟨M_open, rfl, b_M_open⟩ := q0
  have z := all2_cons gf
  clear gf
  obtain ⟨v0, fs, rfl, q0, gf⟩ := z
  obtain ⟨M_codeMany, rfl, b_M_codeMany⟩ := q0
  have z := all2_cons gf
  clear gf
  obtain ⟨v0, fs, rfl, q0, gf⟩ := z
  obtain ⟨M_waiting, rfl, b_M_waiting⟩ := q0
  have z := all2_cons gf
  clear gf
  obtain ⟨v0, fs, rfl, q0, gf⟩ := z
  obtain ⟨M_saidMany, rfl, b_M_saidMany⟩ := q0
  have z := all2_cons gf
  clear gf
  obtain ⟨v0, fs, rfl, q0, gf⟩ := z
  obtain ⟨M_clauses, rfl, e_M_clauses, b_M_clauses⟩ := gT_x (τ := τ) (t := 200) (v := v0) rfl q0
  have z := all2_cons gf
  clear gf
  obtain ⟨v0, fs, rfl, q0, gf⟩ := z
  cases gT_r (τ := τ) (t := 5) (v := v0) rfl q0
  have z := all2_cons gf
  clear gf
  obtain ⟨v0, fs, rfl, q0, gf⟩ := z
  cases gT_r (τ := τ) (t := 6) (v := v0) rfl q0
  have z := all2_cons gf
  clear gf
  obtain ⟨v0, fs, rfl, q0, gf⟩ := z
  cases gT_r (τ := τ) (t := 7) (v := v0) rfl q0
  have z := all2_cons gf
  clear gf
  obtain ⟨v0, fs, rfl, q0, gf⟩ := z
  cases gT_r (τ := τ) (t := 8) (v := v0) rfl q0
  have z := all2_cons gf
  clear gf
  obtain ⟨v0, fs, rfl, q0, gf⟩ := z
  cases gT_r (τ := τ) (t := 9) (v := v0) rfl q0
  have z := all2_cons gf
  clear gf
  obtain ⟨v0, fs, rfl, q0, gf⟩ := z
  cases gT_r (τ := τ) (t := 10) (v := v0) rfl q0
  have z := all2_cons gf
  clear gf
  obtain ⟨v0, fs, rfl, q0, gf⟩ := z
  cases gT_r (τ := τ) (t := 11) (v := v0) rfl q0
  have z := all2_cons gf
  clear gf
  obtain ⟨v0, fs, rfl, q0, gf⟩ := z
  cases gT_r (τ := τ) (t := 12) (v := v0) rfl q0
  have z := all2_cons gf
  clear gf
  obtain ⟨v0, fs, rfl, q0, gf⟩ := z
  cases gT_r (τ := τ) (t := 13) (v := v0) rfl q0
  have z := all2_cons gf
  clear gf
  obtain ⟨v0, fs, rfl, q0, gf⟩ := z
  cases gT_r (τ := τ) (t := 14) (v := v0) rfl q0
  have z := all2_cons gf
  clear gf
  obtain ⟨v0, fs, rfl, q0, gf⟩ := z
  cases gT_r (τ := τ) (t := 15) (v := v0) rfl q0
  have z := all2_cons gf
  clear gf
  obtain ⟨v0, fs, rfl, q0, gf⟩ := z
  cases gT_r (τ := τ) (t := 16) (v := v0) rfl q0
  have z := all2_cons gf
  clear gf
  obtain ⟨v0, fs, rfl, q0, gf⟩ := z
  cases gT_r (τ := τ) (t := 17) (v := v0) rfl q0
  have z := all2_cons gf
  clear gf
  obtain ⟨v0, fs, rfl, q0, gf⟩ := z
  cases (q0 : v0 = .inr (some (.inl 5)))
  have z := all2_cons gf
  clear gf
  obtain ⟨v0, fs, rfl, q0, gf⟩ := z
  cases (q0 : v0 = .inr (some (.inl 6)))
  have z := all2_cons gf
  clear gf
  obtain ⟨v0, fs, rfl, q0, gf⟩ := z
  cases (q0 : v0 = .inr (some (.inl 7)))
  have z := all2_cons gf
  clear gf
  obtain ⟨v0, fs, rfl, q0, gf⟩ := z
  cases (q0 : v0 = .inr (some (.inl 8)))
  have z := all2_cons gf
  clear gf
  obtain ⟨v0, fs, rfl, q0, gf⟩ := z
  obtain ⟨M_newMany, rfl, b_M_newMany⟩ := q0
  have z := all2_cons gf
  clear gf
  obtain ⟨v0, fs, rfl, q0, gf⟩ := z
  obtain ⟨M_rounds, rfl, b_M_rounds⟩ := q0
  have z := all2_cons gf
  clear gf
  obtain ⟨v0, fs, rfl, q0, gf⟩ := z
  obtain ⟨M_stampFrom, rfl, b_M_stampFrom⟩ := q0
  have z := all2_cons gf
  clear gf
  obtain ⟨v0, fs, rfl, q0, gf⟩ := z
  obtain ⟨M_stampTimes, rfl, b_M_stampTimes⟩ := q0
  have z := all2_cons gf
  clear gf
  obtain ⟨v0, fs, rfl, q0, gf⟩ := z
  obtain ⟨M_lines, rfl, b_M_lines⟩ := q0
  have z := all2_cons gf
  clear gf
  obtain ⟨v0, fs, rfl, q0, gf⟩ := z
  obtain ⟨M_spot0, rfl, b_M_spot0⟩ := q0
  have z := all2_cons gf
  clear gf
  obtain ⟨v0, fs, rfl, q0, gf⟩ := z
  obtain ⟨M_pullAcross, rfl, b_M_pullAcross⟩ := q0
  have z := all2_cons gf
  clear gf
  obtain ⟨v0, fs, rfl, q0, gf⟩ := z
  obtain ⟨M_pullAlong, rfl, b_M_pullAlong⟩ := q0
  have z := all2_cons gf
  clear gf
  obtain ⟨v0, fs, rfl, q0, gf⟩ := z
  obtain ⟨M_stepsNow, rfl, b_M_stepsNow⟩ := q0
  have z := all2_cons gf
  clear gf
  obtain ⟨v0, fs, rfl, q0, gf⟩ := z
  obtain ⟨M_fallenNow, rfl, b_M_fallenNow⟩ := q0
  have z := all2_cons gf
  clear gf
  obtain ⟨v0, fs, rfl, q0, gf⟩ := z
  cases gT_r (τ := τ) (t := 18) (v := v0) rfl q0
  have z := all2_cons gf
  clear gf
  obtain ⟨v0, fs, rfl, q0, gf⟩ := z
  cases gT_r (τ := τ) (t := 19) (v := v0) rfl q0
  have z := all2_cons gf
  clear gf
  obtain ⟨v0, fs, rfl, q0, gf⟩ := z
  cases gT_r (τ := τ) (t := 20) (v := v0) rfl q0
  have z := all2_cons gf
  clear gf
  obtain ⟨v0, fs, rfl, q0, gf⟩ := z
  cases gT_r (τ := τ) (t := 21) (v := v0) rfl q0
  have z := all2_cons gf
  clear gf
  obtain ⟨v0, fs, rfl, q0, gf⟩ := z
  cases gT_r (τ := τ) (t := 22) (v := v0) rfl q0
  have z := all2_cons gf
  clear gf
  obtain ⟨v0, fs, rfl, q0, gf⟩ := z
  obtain ⟨M_isKept, rfl, e_M_isKept, b_M_isKept⟩ := gT_x (τ := τ) (t := 201) (v := v0) rfl q0
  cases fs with
  | cons _ _ => exact gf.elim
  | nil =>
    have z := all2_cons hh
    clear hh
    obtain ⟨e1, h, rfl, g1, hh⟩ := z
    rcases e1 with ⟨t1, n1, M_now⟩ | ⟨ci, fs⟩
    rotate_left
    · exact g1.elim
    obtain ⟨et, en, b_M_now⟩ := g1
    cases (et : t1 = 0)
    cases en
    have z := all2_cons hh
    clear hh
    obtain ⟨e1, h, rfl, g1, hh⟩ := z
    rcases e1 with ⟨t1, n1, M_mintOf⟩ | ⟨ci, fs⟩
    rotate_left
    · exact g1.elim
    obtain ⟨et, en, b_M_mintOf⟩ := g1
    cases (et : t1 = 0)
    cases en
    have z := all2_cons hh
    clear hh
    obtain ⟨e1, h, rfl, g1, hh⟩ := z
    rcases e1 with ⟨t1, n1, M_wholeOf⟩ | ⟨ci, fs⟩
    rotate_left
    · exact g1.elim
    obtain ⟨et, en, b_M_wholeOf⟩ := g1
    cases (et : t1 = 0)
    cases en
    have z := all2_cons hh
    clear hh
    obtain ⟨e1, h, rfl, g1, hh⟩ := z
    rcases e1 with ⟨t1, n1, M_tape⟩ | ⟨ci, fs⟩
    rotate_left
    · exact g1.elim
    obtain ⟨et, en, b_M_tape⟩ := g1
    cases (et : t1 = 1)
    cases en
    have z := all2_cons hh
    clear hh
    obtain ⟨e1, h, rfl, g1, hh⟩ := z
    rcases e1 with ⟨t1, n1, M_newStamps⟩ | ⟨ci, fs⟩
    rotate_left
    · exact g1.elim
    obtain ⟨et, en, b_M_newStamps⟩ := g1
    cases (et : t1 = 0)
    cases en
    have z := all2_cons hh
    clear hh
    obtain ⟨e1, h, rfl, g1, hh⟩ := z
    rcases e1 with ⟨t1, n1, M_roundFrom⟩ | ⟨ci, fs⟩
    rotate_left
    · exact g1.elim
    obtain ⟨et, en, b_M_roundFrom⟩ := g1
    cases (et : t1 = 0)
    cases en
    have z := all2_cons hh
    clear hh
    obtain ⟨e1, h, rfl, g1, hh⟩ := z
    rcases e1 with ⟨t1, n1, M_roundAt⟩ | ⟨ci, fs⟩
    rotate_left
    · exact g1.elim
    obtain ⟨et, en, b_M_roundAt⟩ := g1
    cases (et : t1 = 0)
    cases en
    have z := all2_cons hh
    clear hh
    obtain ⟨e1, h, rfl, g1, hh⟩ := z
    rcases e1 with ⟨t1, n1, M_roundTimes⟩ | ⟨ci, fs⟩
    rotate_left
    · exact g1.elim
    obtain ⟨et, en, b_M_roundTimes⟩ := g1
    cases (et : t1 = 0)
    cases en
    cases h with
    | cons _ _ => exact hh.elim
    | nil =>
      obtain ⟨s, hs, rfl⟩ := rng_n (x := M_taped) (k := 260) (by omega) b_M_taped.2
      have es := sz_n (c := s) (by omega)
      obtain ⟨rF, eF⟩ := rg_x rfl b_M_tape
      refine (x_X12_sheet (b := ob (fun i => f_and (decA (τ 251) i) 255)) (s := s) h1.1 (by omega) hs (by omega) (fun i hi => ob_ok (f := fun i => f_and (decA (τ 251) i) 255) (F := fun i => f_and (M_tape i) 255) (by omega) (by show f_and (M_tape i) 255 = f_and (decA (τ 251) i) 255; rw [eF i (by omega)]) oct_rng) (seg_of b_M_now) (rg_of b_M_mintOf) (rg_of b_M_wholeOf) (rg_of b_M_newStamps) b_M_stampMany).mono (fun r h' hp => ?_)
      obtain ⟨y, nw, mo, wh, ns, rf, ra, rt, sm, pp, f, nm, rd, sf, st, rfl, kQ, hst, k1, k2, k3, k4, k5, k6, rfl⟩ := hp
      exact ⟨τ, y, hΦ, fun _ _ => rfl, rfl, kQ, ⟨⟨rfl, rfl, rfl, rfl, rfl, rfl, rfl, rfl, rfl, ⟨_, rfl, k5⟩, rfl, ⟨0, rfl, by decide, by decide⟩, ⟨_, rfl, k6⟩, ⟨_, rfl, nr240 (by omega)⟩, topA_ok _, ⟨_, rfl, b_M_number0⟩, ⟨_, rfl, b_M_open⟩, ⟨0, rfl, by decide, by decide⟩, ⟨_, rfl, b_M_waiting⟩, ⟨0, rfl, by decide, by decide⟩, gT_mk rfl e_M_clauses b_M_clauses, rfl, rfl, rfl, rfl, rfl, rfl, rfl, rfl, rfl, rfl, rfl, rfl, rfl, rfl, rfl, rfl, rfl, topA_ok _, topA_ok _, topA_ok _, topA_ok _, ⟨_, rfl, b_M_lines⟩, ⟨_, rfl, b_M_spot0⟩, ⟨_, rfl, b_M_pullAcross⟩, ⟨_, rfl, b_M_pullAlong⟩, ⟨_, rfl, b_M_stepsNow⟩, ⟨_, rfl, b_M_fallenNow⟩, rfl, rfl, rfl, rfl, rfl, gT_mk rfl e_M_isKept b_M_isKept, trivial⟩, ⟨rfl, rfl, of_seg k1⟩, ⟨rfl, rfl, of_rg k2⟩, ⟨rfl, rfl, of_rg k3⟩, ⟨rfl, rfl, b_M_tape⟩, ⟨rfl, rfl, of_rg k4⟩, ⟨rfl, rfl, of_rg rg_top⟩, ⟨rfl, rfl, of_rg rg_top⟩, ⟨rfl, rfl, of_rg rg_top⟩, trivial⟩⟩

def HX_sheet60C : List AC := hc_aaed5a5867
def HY_sheet60C : List AC := hc_5130b8b1e6
set_option maxRecDepth 100000 in
theorem x_sheet60C {l : Launch} {n : Nat} (h1 : 1 ≤ n ∧ n ≤ 60) : conOkX (MetP l 102 yX11_sheet cX11_sheet 3 (some .int) 0 0) [nI n] HX_sheet60C HY_sheet60C (fun _ => false) (fun _ => True) (fun τ _ y => shY (ob (decA (τ 250))) n y) := by
  intro τ hΦ hP h hh
  have z := all2_cons hh
  clear hh
  obtain ⟨e0, h, rfl, g0, hh⟩ := z
  rcases e0 with ⟨t0, n0, f0⟩ | ⟨ci, fs⟩
  · exact g0.elim
  obtain ⟨rfl, gf⟩ := g0
  have z := all2_cons gf
  clear gf
  obtain ⟨v0, fs, rfl, q0, gf⟩ := z
  cases (q0 : v0 = .inr (some (.inl 1)))
  have z := all2_cons gf
  clear gf
  obtain ⟨v0, fs, rfl, q0, gf⟩ := z
  cases (q0 : v0 = .inr (some (.inl 6)))
  have z := all2_cons gf
  clear gf
  obtain ⟨v0, fs, rfl, q0, gf⟩ := z
  cases (q0 : v0 = .inr (some (.inl 12)))
  have z := all2_cons gf
  clear gf
  obtain ⟨v0, fs, rfl, q0, gf⟩ := z
  cases gT_r (τ := τ) (t := 0) (v := v0) rfl q0
  have z := all2_cons gf
  clear gf
  obtain ⟨v0, fs, rfl, q0, gf⟩ := z
  cases gT_r (τ := τ) (t := 1) (v := v0) rfl q0
  have z := all2_cons gf
  clear gf
  obtain ⟨v0, fs, rfl, q0, gf⟩ := z
  cases gT_r (τ := τ) (t := 2) (v := v0) rfl q0
  have z := all2_cons gf
  clear gf
  obtain ⟨v0, fs, rfl, q0, gf⟩ := z
  cases gT_r (τ := τ) (t := 3) (v := v0) rfl q0
  have z := all2_cons gf
  clear gf
  obtain ⟨v0, fs, rfl, q0, gf⟩ := z
  cases gT_r (τ := τ) (t := 4) (v := v0) rfl q0
  have z := all2_cons gf
  clear gf
  obtain ⟨v0, fs, rfl, q0, gf⟩ := z
  cases (q0 : v0 = .inr (some (.inl 3)))
  have z := all2_cons gf
  clear gf
  obtain ⟨v0, fs, rfl, q0, gf⟩ := z
  cases gT_r (τ := τ) (t := 5) (v := v0) rfl q0
  have z := all2_cons gf
  clear gf
  obtain ⟨v0, fs, rfl, q0, gf⟩ := z
  cases gT_r (τ := τ) (t := 6) (v := v0) rfl q0
  have z := all2_cons gf
  clear gf
  obtain ⟨v0, fs, rfl, q0, gf⟩ := z
  cases gT_r (τ := τ) (t := 7) (v := v0) rfl q0
  have z := all2_cons gf
  clear gf
  obtain ⟨v0, fs, rfl, q0, gf⟩ := z
  cases gT_r (τ := τ) (t := 8) (v := v0) rfl q0
  have z := all2_cons gf
  clear gf
  obtain ⟨v0, fs, rfl, q0, gf⟩ := z
  cases gT_r (τ := τ) (t := 9) (v := v0) rfl q0
  have z := all2_cons gf
  clear gf
  obtain ⟨v0, fs, rfl, q0, gf⟩ := z
  obtain ⟨HS_wasKept, rfl, e_HS_wasKept, b_HS_wasKept⟩ := gT_x (τ := τ) (t := 201) (v := v0) rfl q0
  cases fs with
  | cons _ _ => exact gf.elim
  | nil =>
    have z := all2_cons hh
    clear hh
    obtain ⟨e0, h, rfl, g0, hh⟩ := z
    rcases e0 with ⟨t0, n0, f0⟩ | ⟨ci, fs⟩
    · exact g0.elim
    obtain ⟨rfl, gf⟩ := g0
    have z := all2_cons gf
    clear gf
    obtain ⟨v0, fs, rfl, q0, gf⟩ := z
    cases (q0 : v0 = .inr (some (.inl 2)))
    have z := all2_cons gf
    clear gf
    obtain ⟨v0, fs, rfl, q0, gf⟩ := z
    obtain ⟨Tape_size, rfl, b_Tape_size⟩ := q0
    cases fs with
    | cons _ _ => exact gf.elim
    | nil =>
      have z := all2_cons hh
      clear hh
      obtain ⟨e1, h, rfl, g1, hh⟩ := z
      rcases e1 with ⟨t1, n1, Tape_bytes⟩ | ⟨ci, fs⟩
      rotate_left
      · exact g1.elim
      obtain ⟨et, en, b_Tape_bytes⟩ := g1
      cases (et : t1 = 0)
      cases en
      have z := all2_cons hh
      clear hh
      obtain ⟨e0, h, rfl, g0, hh⟩ := z
      rcases e0 with ⟨t0, n0, f0⟩ | ⟨ci, fs⟩
      · exact g0.elim
      obtain ⟨rfl, gf⟩ := g0
      have z := all2_cons gf
      clear gf
      obtain ⟨v0, fs, rfl, q0, gf⟩ := z
      cases (q0 : v0 = .inr (some (.inl 2)))
      have z := all2_cons gf
      clear gf
      obtain ⟨v0, fs, rfl, q0, gf⟩ := z
      obtain ⟨SR_end, rfl, b_SR_end⟩ := q0
      have z := all2_cons gf
      clear gf
      obtain ⟨v0, fs, rfl, q0, gf⟩ := z
      obtain ⟨SR_at, rfl, b_SR_at⟩ := q0
      have z := all2_cons gf
      clear gf
      obtain ⟨v0, fs, rfl, q0, gf⟩ := z
      obtain ⟨SR_ahead, rfl, b_SR_ahead⟩ := q0
      have z := all2_cons gf
      clear gf
      obtain ⟨v0, fs, rfl, q0, gf⟩ := z
      obtain ⟨SR_fault, rfl, b_SR_fault⟩ := q0
      have z := all2_cons gf
      clear gf
      obtain ⟨v0, fs, rfl, q0, gf⟩ := z
      cases (q0 : v0 = .inr (some (.inl 4)))
      have z := all2_cons gf
      clear gf
      obtain ⟨v0, fs, rfl, q0, gf⟩ := z
      cases (q0 : v0 = .inr (some (.inl 5)))
      have z := all2_cons gf
      clear gf
      obtain ⟨v0, fs, rfl, q0, gf⟩ := z
      obtain ⟨SR_size, rfl, b_SR_size⟩ := q0
      cases fs with
      | cons _ _ => exact gf.elim
      | nil =>
        have z := all2_cons hh
        clear hh
        obtain ⟨e1, h, rfl, g1, hh⟩ := z
        rcases e1 with ⟨t1, n1, SR_mint⟩ | ⟨ci, fs⟩
        rotate_left
        · exact g1.elim
        obtain ⟨et, en, b_SR_mint⟩ := g1
        cases (et : t1 = 0)
        cases en
        have z := all2_cons hh
        clear hh
        obtain ⟨e1, h, rfl, g1, hh⟩ := z
        rcases e1 with ⟨t1, n1, SR_grains⟩ | ⟨ci, fs⟩
        rotate_left
        · exact g1.elim
        obtain ⟨et, en, b_SR_grains⟩ := g1
        cases (et : t1 = 0)
        cases en
        have z := all2_cons hh
        clear hh
        obtain ⟨e0, h, rfl, g0, hh⟩ := z
        rcases e0 with ⟨t0, n0, f0⟩ | ⟨ci, fs⟩
        · exact g0.elim
        obtain ⟨rfl, gf⟩ := g0
        have z := all2_cons gf
        clear gf
        obtain ⟨v0, fs, rfl, q0, gf⟩ := z
        cases (q0 : v0 = .inr (some (.inl 7)))
        have z := all2_cons gf
        clear gf
        obtain ⟨v0, fs, rfl, q0, gf⟩ := z
        cases (q0 : v0 = .inr (some (.inl 8)))
        have z := all2_cons gf
        clear gf
        obtain ⟨v0, fs, rfl, q0, gf⟩ := z
        cases (q0 : v0 = .inr (some (.inl 9)))
        have z := all2_cons gf
        clear gf
        obtain ⟨v0, fs, rfl, q0, gf⟩ := z
        cases (q0 : v0 = .inr (some (.inl 10)))
        have z := all2_cons gf
        clear gf
        obtain ⟨v0, fs, rfl, q0, gf⟩ := z
        cases (q0 : v0 = .inr (some (.inl 11)))
        have z := all2_cons gf
        clear gf
        obtain ⟨v0, fs, rfl, q0, gf⟩ := z
        obtain ⟨Rep_toldMints, rfl, b_Rep_toldMints⟩ := q0
        have z := all2_cons gf
        clear gf
        obtain ⟨v0, fs, rfl, q0, gf⟩ := z
        obtain ⟨Rep_walls, rfl, b_Rep_walls⟩ := q0
        have z := all2_cons gf
        clear gf
        obtain ⟨v0, fs, rfl, q0, gf⟩ := z
        obtain ⟨Rep_stamps, rfl, b_Rep_stamps⟩ := q0
        cases fs with
        | cons _ _ => exact gf.elim
        | nil =>
          have z := all2_cons hh
          clear hh
          obtain ⟨e1, h, rfl, g1, hh⟩ := z
          rcases e1 with ⟨t1, n1, Rep_mintX⟩ | ⟨ci, fs⟩
          rotate_left
          · exact g1.elim
          obtain ⟨et, en, b_Rep_mintX⟩ := g1
          cases (et : t1 = 0)
          cases en
          have z := all2_cons hh
          clear hh
          obtain ⟨e1, h, rfl, g1, hh⟩ := z
          rcases e1 with ⟨t1, n1, Rep_mintY⟩ | ⟨ci, fs⟩
          rotate_left
          · exact g1.elim
          obtain ⟨et, en, b_Rep_mintY⟩ := g1
          cases (et : t1 = 0)
          cases en
          have z := all2_cons hh
          clear hh
          obtain ⟨e1, h, rfl, g1, hh⟩ := z
          rcases e1 with ⟨t1, n1, Rep_wall⟩ | ⟨ci, fs⟩
          rotate_left
          · exact g1.elim
          obtain ⟨et, en, b_Rep_wall⟩ := g1
          cases (et : t1 = 2)
          cases en
          have z := all2_cons hh
          clear hh
          obtain ⟨e1, h, rfl, g1, hh⟩ := z
          rcases e1 with ⟨t1, n1, Rep_mintOf⟩ | ⟨ci, fs⟩
          rotate_left
          · exact g1.elim
          obtain ⟨et, en, b_Rep_mintOf⟩ := g1
          cases (et : t1 = 0)
          cases en
          have z := all2_cons hh
          clear hh
          obtain ⟨e1, h, rfl, g1, hh⟩ := z
          rcases e1 with ⟨t1, n1, Rep_grainsOf⟩ | ⟨ci, fs⟩
          rotate_left
          · exact g1.elim
          obtain ⟨et, en, b_Rep_grainsOf⟩ := g1
          cases (et : t1 = 0)
          cases en
          have z := all2_cons hh
          clear hh
          obtain ⟨e0, h, rfl, g0, hh⟩ := z
          rcases e0 with ⟨t0, n0, f0⟩ | ⟨ci, fs⟩
          · exact g0.elim
          obtain ⟨rfl, gf⟩ := g0
          have z := all2_cons gf
          clear gf
          obtain ⟨v0, fs, rfl, q0, gf⟩ := z
          cases (q0 : v0 = .inr (some (.inl 13)))
          have z := all2_cons gf
          clear gf
          obtain ⟨v0, fs, rfl, q0, gf⟩ := z
          cases (q0 : v0 = .inr (some (.inl 14)))
          have z := all2_cons gf
          clear gf
          obtain ⟨v0, fs, rfl, q0, gf⟩ := z
          cases (q0 : v0 = .inr (some (.inl 15)))
          have z := all2_cons gf
          clear gf
          obtain ⟨v0, fs, rfl, q0, gf⟩ := z
          cases (q0 : v0 = .inr (some (.inl 16)))
          have z := all2_cons gf
          clear gf
          obtain ⟨v0, fs, rfl, q0, gf⟩ := z
          obtain ⟨Now_told, rfl, b_Now_told⟩ := q0
          have z := all2_cons gf
          clear gf
          obtain ⟨v0, fs, rfl, q0, gf⟩ := z
          obtain ⟨Now_walled, rfl, b_Now_walled⟩ := q0
          have z := all2_cons gf
          clear gf
          obtain ⟨v0, fs, rfl, q0, gf⟩ := z
          obtain ⟨Now_day, rfl, b_Now_day⟩ := q0
          have z := all2_cons gf
          clear gf
          obtain ⟨v0, fs, rfl, q0, gf⟩ := z
          obtain ⟨Now_drawState, rfl, b_Now_drawState⟩ := q0
          cases fs with
          | cons _ _ => exact gf.elim
          | nil =>
            have z := all2_cons hh
            clear hh
            obtain ⟨e1, h, rfl, g1, hh⟩ := z
            rcases e1 with ⟨t1, n1, Now_place⟩ | ⟨ci, fs⟩
            rotate_left
            · exact g1.elim
            obtain ⟨et, en, b_Now_place⟩ := g1
            cases (et : t1 = 0)
            cases en
            have z := all2_cons hh
            clear hh
            obtain ⟨e1, h, rfl, g1, hh⟩ := z
            rcases e1 with ⟨t1, n1, Now_paste⟩ | ⟨ci, fs⟩
            rotate_left
            · exact g1.elim
            obtain ⟨et, en, b_Now_paste⟩ := g1
            cases (et : t1 = 0)
            cases en
            have z := all2_cons hh
            clear hh
            obtain ⟨e1, h, rfl, g1, hh⟩ := z
            rcases e1 with ⟨t1, n1, Now_letter⟩ | ⟨ci, fs⟩
            rotate_left
            · exact g1.elim
            obtain ⟨et, en, b_Now_letter⟩ := g1
            cases (et : t1 = 0)
            cases en
            have z := all2_cons hh
            clear hh
            obtain ⟨e1, h, rfl, g1, hh⟩ := z
            rcases e1 with ⟨t1, n1, Now_used⟩ | ⟨ci, fs⟩
            rotate_left
            · exact g1.elim
            obtain ⟨et, en, b_Now_used⟩ := g1
            cases (et : t1 = 0)
            cases en
            cases h with
            | cons _ _ => exact hh.elim
            | nil =>
              obtain ⟨s, hs, rfl⟩ := rng_n (x := Tape_size) (k := 260) (by omega) b_Tape_size.2
              have es := sz_n (c := s) (by omega)
              obtain ⟨rF, eF⟩ := rg_x rfl b_Tape_bytes
              refine (c_X11_sheet (o := ob (decA (τ 250))) (s := s) h1.1 (by omega) hs (by omega) (fun i hi => ob_ok (by omega) (eF i (by omega)) (rF i (by omega)))).mono (fun r h' hp => ?_)
              obtain ⟨y, at_, ah, fa, sm, c, fm, fg, mo, gr, le, us, rfl, hc, kQ, hst, rfl⟩ := hp
              exact ⟨τ, y, hΦ, fun _ _ => rfl, rfl, kQ, ⟨⟨rfl, rfl, rfl, rfl, rfl, rfl, rfl, rfl, rfl, rfl, rfl, rfl, rfl, rfl, rfl, gT_mk rfl e_HS_wasKept b_HS_wasKept, trivial⟩, ⟨rfl, rfl, ⟨0, rfl, by decide, by decide⟩, trivial⟩, ⟨rfl, rfl, b_Tape_bytes⟩, ⟨rfl, rfl, topA_ok _, topA_ok _, topA_ok _, topA_ok _, rfl, rfl, ⟨_, rfl, nr48 hc⟩, trivial⟩, ⟨rfl, rfl, of_rg rg_top⟩, ⟨rfl, rfl, of_rg rg_top⟩, ⟨rfl, rfl, rfl, rfl, rfl, rfl, ⟨_, rfl, b_Rep_toldMints⟩, ⟨_, rfl, b_Rep_walls⟩, ⟨_, rfl, by rcases hst with z | z <;> rw [z.1] <;> first | exact b_Rep_stamps | exact nr48 hc⟩, trivial⟩, ⟨rfl, rfl, b_Rep_mintX⟩, ⟨rfl, rfl, b_Rep_mintY⟩, ⟨rfl, rfl, b_Rep_wall⟩, ⟨rfl, rfl, of_rg rg_top⟩, ⟨rfl, rfl, of_rg rg_top⟩, ⟨rfl, rfl, rfl, rfl, rfl, ⟨_, rfl, b_Now_told⟩, ⟨_, rfl, b_Now_walled⟩, ⟨_, rfl, b_Now_day⟩, ⟨_, rfl, b_Now_drawState⟩, trivial⟩, ⟨rfl, rfl, b_Now_place⟩, ⟨rfl, rfl, b_Now_paste⟩, ⟨rfl, rfl, of_rg rg_top⟩, ⟨rfl, rfl, of_rg rg_top⟩, trivial⟩⟩

def HX_sheet60R : List AC := hc_ea1c610dfd
def HY_sheet60R : List AC := hc_179c969647
set_option maxRecDepth 100000 in
theorem x_sheet60R {l : Launch} {n : Nat} (h1 : 1 ≤ n ∧ n ≤ 60) : conOkX (MetP l 3 yX12_sheet cX12_sheet 4 (some .int) 0 0) [nI n] HX_sheet60R HY_sheet60R (fun _ => false) (fun _ => True) (fun τ _ y => shY (ob (fun i => f_and (decA (τ 251) i) 255)) n y) := by
  intro τ hΦ hP h hh
  have z := all2_cons hh
  clear hh
  obtain ⟨e0, h, rfl, g0, hh⟩ := z
  rcases e0 with ⟨t0, n0, f0⟩ | ⟨ci, fs⟩
  · exact g0.elim
  obtain ⟨rfl, gf⟩ := g0
  have z := all2_cons gf
  clear gf
  obtain ⟨v0, fs, rfl, q0, gf⟩ := z
  cases (q0 : v0 = .inr (some (.inl 1)))
  have z := all2_cons gf
  clear gf
  obtain ⟨v0, fs, rfl, q0, gf⟩ := z
  cases gT_r (τ := τ) (t := 0) (v := v0) rfl q0
  have z := all2_cons gf
  clear gf
  obtain ⟨v0, fs, rfl, q0, gf⟩ := z
  cases gT_r (τ := τ) (t := 1) (v := v0) rfl q0
  have z := all2_cons gf
  clear gf
  obtain ⟨v0, fs, rfl, q0, gf⟩ := z
  cases gT_r (τ := τ) (t := 2) (v := v0) rfl q0
  have z := all2_cons gf
  clear gf
  obtain ⟨v0, fs, rfl, q0, gf⟩ := z
  cases (q0 : v0 = .inr (some (.inl 2)))
  have z := all2_cons gf
  clear gf
  obtain ⟨v0, fs, rfl, q0, gf⟩ := z
  cases (q0 : v0 = .inr (some (.inl 3)))
  have z := all2_cons gf
  clear gf
  obtain ⟨v0, fs, rfl, q0, gf⟩ := z
  cases gT_r (τ := τ) (t := 3) (v := v0) rfl q0
  have z := all2_cons gf
  clear gf
  obtain ⟨v0, fs, rfl, q0, gf⟩ := z
  cases gT_r (τ := τ) (t := 4) (v := v0) rfl q0
  have z := all2_cons gf
  clear gf
  obtain ⟨v0, fs, rfl, q0, gf⟩ := z
  obtain ⟨M_stampMany, rfl, b_M_stampMany⟩ := q0
  have z := all2_cons gf
  clear gf
  obtain ⟨v0, fs, rfl, q0, gf⟩ := z
  cases (q0 : v0 = .inr (some (.inl 4)))
  have z := all2_cons gf
  clear gf
  obtain ⟨v0, fs, rfl, q0, gf⟩ := z
  obtain ⟨M_taped, rfl, b_M_taped⟩ := q0
  have z := all2_cons gf
  clear gf
  obtain ⟨v0, fs, rfl, q0, gf⟩ := z
  obtain ⟨M_place0, rfl, b_M_place0⟩ := q0
  have z := all2_cons gf
  clear gf
  obtain ⟨v0, fs, rfl, q0, gf⟩ := z
  obtain ⟨M_length0, rfl, b_M_length0⟩ := q0
  have z := all2_cons gf
  clear gf
  obtain ⟨v0, fs, rfl, q0, gf⟩ := z
  obtain ⟨M_fault, rfl, b_M_fault⟩ := q0
  have z := all2_cons gf
  clear gf
  obtain ⟨v0, fs, rfl, q0, gf⟩ := z
  obtain ⟨M_number0, rfl, b_M_number0⟩ := q0
  have z := all2_cons gf
  clear gf
  obtain ⟨v0, fs, rfl, q0, gf⟩ := z
  obtain ⟨M_open, rfl, b_M_open⟩ := q0
  have z := all2_cons gf
  clear gf
  obtain ⟨v0, fs, rfl, q0, gf⟩ := z
  obtain ⟨M_codeMany, rfl, b_M_codeMany⟩ := q0
  have z := all2_cons gf
  clear gf
  obtain ⟨v0, fs, rfl, q0, gf⟩ := z
  obtain ⟨M_waiting, rfl, b_M_waiting⟩ := q0
  have z := all2_cons gf
  clear gf
  obtain ⟨v0, fs, rfl, q0, gf⟩ := z
  obtain ⟨M_saidMany, rfl, b_M_saidMany⟩ := q0
  have z := all2_cons gf
  clear gf
  obtain ⟨v0, fs, rfl, q0, gf⟩ := z
  obtain ⟨M_clauses, rfl, e_M_clauses, b_M_clauses⟩ := gT_x (τ := τ) (t := 200) (v := v0) rfl q0
  have z := all2_cons gf
  clear gf
  obtain ⟨v0, fs, rfl, q0, gf⟩ := z
  cases gT_r (τ := τ) (t := 5) (v := v0) rfl q0
  have z := all2_cons gf
  clear gf
  obtain ⟨v0, fs, rfl, q0, gf⟩ := z
  cases gT_r (τ := τ) (t := 6) (v := v0) rfl q0
  have z := all2_cons gf
  clear gf
  obtain ⟨v0, fs, rfl, q0, gf⟩ := z
  cases gT_r (τ := τ) (t := 7) (v := v0) rfl q0
  have z := all2_cons gf
  clear gf
  obtain ⟨v0, fs, rfl, q0, gf⟩ := z
  cases gT_r (τ := τ) (t := 8) (v := v0) rfl q0
  have z := all2_cons gf
  clear gf
  obtain ⟨v0, fs, rfl, q0, gf⟩ := z
  cases gT_r (τ := τ) (t := 9) (v := v0) rfl q0
  have z := all2_cons gf
  clear gf
  obtain ⟨v0, fs, rfl, q0, gf⟩ := z
  cases gT_r (τ := τ) (t := 10) (v := v0) rfl q0
  have z := all2_cons gf
  clear gf
  obtain ⟨v0, fs, rfl, q0, gf⟩ := z
  cases gT_r (τ := τ) (t := 11) (v := v0) rfl q0
  have z := all2_cons gf
  clear gf
  obtain ⟨v0, fs, rfl, q0, gf⟩ := z
  cases gT_r (τ := τ) (t := 12) (v := v0) rfl q0
  have z := all2_cons gf
  clear gf
  obtain ⟨v0, fs, rfl, q0, gf⟩ := z
  cases gT_r (τ := τ) (t := 13) (v := v0) rfl q0
  have z := all2_cons gf
  clear gf
  obtain ⟨v0, fs, rfl, q0, gf⟩ := z
  cases gT_r (τ := τ) (t := 14) (v := v0) rfl q0
  have z := all2_cons gf
  clear gf
  obtain ⟨v0, fs, rfl, q0, gf⟩ := z
  cases gT_r (τ := τ) (t := 15) (v := v0) rfl q0
  have z := all2_cons gf
  clear gf
  obtain ⟨v0, fs, rfl, q0, gf⟩ := z
  cases gT_r (τ := τ) (t := 16) (v := v0) rfl q0
  have z := all2_cons gf
  clear gf
  obtain ⟨v0, fs, rfl, q0, gf⟩ := z
  cases gT_r (τ := τ) (t := 17) (v := v0) rfl q0
  have z := all2_cons gf
  clear gf
  obtain ⟨v0, fs, rfl, q0, gf⟩ := z
  cases (q0 : v0 = .inr (some (.inl 5)))
  have z := all2_cons gf
  clear gf
  obtain ⟨v0, fs, rfl, q0, gf⟩ := z
  cases (q0 : v0 = .inr (some (.inl 6)))
  have z := all2_cons gf
  clear gf
  obtain ⟨v0, fs, rfl, q0, gf⟩ := z
  cases (q0 : v0 = .inr (some (.inl 7)))
  have z := all2_cons gf
  clear gf
  obtain ⟨v0, fs, rfl, q0, gf⟩ := z
  cases (q0 : v0 = .inr (some (.inl 8)))
  have z := all2_cons gf
  clear gf
  obtain ⟨v0, fs, rfl, q0, gf⟩ := z
  obtain ⟨M_newMany, rfl, b_M_newMany⟩ := q0
  have z := all2_cons gf
  clear gf
  obtain ⟨v0, fs, rfl, q0, gf⟩ := z
  obtain ⟨M_rounds, rfl, b_M_rounds⟩ := q0
  have z := all2_cons gf
  clear gf
  obtain ⟨v0, fs, rfl, q0, gf⟩ := z
  obtain ⟨M_stampFrom, rfl, b_M_stampFrom⟩ := q0
  have z := all2_cons gf
  clear gf
  obtain ⟨v0, fs, rfl, q0, gf⟩ := z
  obtain ⟨M_stampTimes, rfl, b_M_stampTimes⟩ := q0
  have z := all2_cons gf
  clear gf
  obtain ⟨v0, fs, rfl, q0, gf⟩ := z
  obtain ⟨M_lines, rfl, b_M_lines⟩ := q0
  have z := all2_cons gf
  clear gf
  obtain ⟨v0, fs, rfl, q0, gf⟩ := z
  obtain ⟨M_spot0, rfl, b_M_spot0⟩ := q0
  have z := all2_cons gf
  clear gf
  obtain ⟨v0, fs, rfl, q0, gf⟩ := z
  obtain ⟨M_pullAcross, rfl, b_M_pullAcross⟩ := q0
  have z := all2_cons gf
  clear gf
  obtain ⟨v0, fs, rfl, q0, gf⟩ := z
  obtain ⟨M_pullAlong, rfl, b_M_pullAlong⟩ := q0
  have z := all2_cons gf
  clear gf
  obtain ⟨v0, fs, rfl, q0, gf⟩ := z
  obtain ⟨M_stepsNow, rfl, b_M_stepsNow⟩ := q0
  have z := all2_cons gf
  clear gf
  obtain ⟨v0, fs, rfl, q0, gf⟩ := z
  obtain ⟨M_fallenNow, rfl, b_M_fallenNow⟩ := q0
  have z := all2_cons gf
  clear gf
  obtain ⟨v0, fs, rfl, q0, gf⟩ := z
  cases gT_r (τ := τ) (t := 18) (v := v0) rfl q0
  have z := all2_cons gf
  clear gf
  obtain ⟨v0, fs, rfl, q0, gf⟩ := z
  cases gT_r (τ := τ) (t := 19) (v := v0) rfl q0
  have z := all2_cons gf
  clear gf
  obtain ⟨v0, fs, rfl, q0, gf⟩ := z
  cases gT_r (τ := τ) (t := 20) (v := v0) rfl q0
  have z := all2_cons gf
  clear gf
  obtain ⟨v0, fs, rfl, q0, gf⟩ := z
  cases gT_r (τ := τ) (t := 21) (v := v0) rfl q0
  have z := all2_cons gf
  clear gf
  obtain ⟨v0, fs, rfl, q0, gf⟩ := z
  cases gT_r (τ := τ) (t := 22) (v := v0) rfl q0
  have z := all2_cons gf
  clear gf
  obtain ⟨v0, fs, rfl, q0, gf⟩ := z
  obtain ⟨M_isKept, rfl, e_M_isKept, b_M_isKept⟩ := gT_x (τ := τ) (t := 201) (v := v0) rfl q0
  cases fs with
  | cons _ _ => exact gf.elim
  | nil =>
    have z := all2_cons hh
    clear hh
    obtain ⟨e1, h, rfl, g1, hh⟩ := z
    rcases e1 with ⟨t1, n1, M_now⟩ | ⟨ci, fs⟩
    rotate_left
    · exact g1.elim
    obtain ⟨et, en, b_M_now⟩ := g1
    cases (et : t1 = 0)
    cases en
    have z := all2_cons hh
    clear hh
    obtain ⟨e1, h, rfl, g1, hh⟩ := z
    rcases e1 with ⟨t1, n1, M_mintOf⟩ | ⟨ci, fs⟩
    rotate_left
    · exact g1.elim
    obtain ⟨et, en, b_M_mintOf⟩ := g1
    cases (et : t1 = 0)
    cases en
    have z := all2_cons hh
    clear hh
    obtain ⟨e1, h, rfl, g1, hh⟩ := z
    rcases e1 with ⟨t1, n1, M_wholeOf⟩ | ⟨ci, fs⟩
    rotate_left
    · exact g1.elim
    obtain ⟨et, en, b_M_wholeOf⟩ := g1
    cases (et : t1 = 0)
    cases en
    have z := all2_cons hh
    clear hh
    obtain ⟨e1, h, rfl, g1, hh⟩ := z
    rcases e1 with ⟨t1, n1, M_tape⟩ | ⟨ci, fs⟩
    rotate_left
    · exact g1.elim
    obtain ⟨et, en, b_M_tape⟩ := g1
    cases (et : t1 = 1)
    cases en
    have z := all2_cons hh
    clear hh
    obtain ⟨e1, h, rfl, g1, hh⟩ := z
    rcases e1 with ⟨t1, n1, M_newStamps⟩ | ⟨ci, fs⟩
    rotate_left
    · exact g1.elim
    obtain ⟨et, en, b_M_newStamps⟩ := g1
    cases (et : t1 = 0)
    cases en
    have z := all2_cons hh
    clear hh
    obtain ⟨e1, h, rfl, g1, hh⟩ := z
    rcases e1 with ⟨t1, n1, M_roundFrom⟩ | ⟨ci, fs⟩
    rotate_left
    · exact g1.elim
    obtain ⟨et, en, b_M_roundFrom⟩ := g1
    cases (et : t1 = 0)
    cases en
    have z := all2_cons hh
    clear hh
    obtain ⟨e1, h, rfl, g1, hh⟩ := z
    rcases e1 with ⟨t1, n1, M_roundAt⟩ | ⟨ci, fs⟩
    rotate_left
    · exact g1.elim
    obtain ⟨et, en, b_M_roundAt⟩ := g1
    cases (et : t1 = 0)
    cases en
    have z := all2_cons hh
    clear hh
    obtain ⟨e1, h, rfl, g1, hh⟩ := z
    rcases e1 with ⟨t1, n1, M_roundTimes⟩ | ⟨ci, fs⟩
    rotate_left
    · exact g1.elim
    obtain ⟨et, en, b_M_roundTimes⟩ := g1
    cases (et : t1 = 0)
    cases en
    cases h with
    | cons _ _ => exact hh.elim
    | nil =>
      obtain ⟨s, hs, rfl⟩ := rng_n (x := M_taped) (k := 260) (by omega) b_M_taped.2
      have es := sz_n (c := s) (by omega)
      obtain ⟨rF, eF⟩ := rg_x rfl b_M_tape
      refine (x_X12_sheet (b := ob (fun i => f_and (decA (τ 251) i) 255)) (s := s) h1.1 (by omega) hs (by omega) (fun i hi => ob_ok (f := fun i => f_and (decA (τ 251) i) 255) (F := fun i => f_and (M_tape i) 255) (by omega) (by show f_and (M_tape i) 255 = f_and (decA (τ 251) i) 255; rw [eF i (by omega)]) oct_rng) (seg_of b_M_now) (rg_of b_M_mintOf) (rg_of b_M_wholeOf) (rg_of b_M_newStamps) b_M_stampMany).mono (fun r h' hp => ?_)
      obtain ⟨y, nw, mo, wh, ns, rf, ra, rt, sm, pp, f, nm, rd, sf, st, rfl, kQ, hst, k1, k2, k3, k4, k5, k6, rfl⟩ := hp
      exact ⟨τ, y, hΦ, fun _ _ => rfl, rfl, kQ, ⟨⟨rfl, rfl, rfl, rfl, rfl, rfl, rfl, rfl, rfl, ⟨_, rfl, k5⟩, rfl, ⟨0, rfl, by decide, by decide⟩, ⟨_, rfl, k6⟩, ⟨_, rfl, nr240 (by omega)⟩, topA_ok _, ⟨_, rfl, b_M_number0⟩, ⟨_, rfl, b_M_open⟩, ⟨0, rfl, by decide, by decide⟩, ⟨_, rfl, b_M_waiting⟩, ⟨0, rfl, by decide, by decide⟩, gT_mk rfl e_M_clauses b_M_clauses, rfl, rfl, rfl, rfl, rfl, rfl, rfl, rfl, rfl, rfl, rfl, rfl, rfl, rfl, rfl, rfl, rfl, topA_ok _, topA_ok _, topA_ok _, topA_ok _, ⟨_, rfl, b_M_lines⟩, ⟨_, rfl, b_M_spot0⟩, ⟨_, rfl, b_M_pullAcross⟩, ⟨_, rfl, b_M_pullAlong⟩, ⟨_, rfl, b_M_stepsNow⟩, ⟨_, rfl, b_M_fallenNow⟩, rfl, rfl, rfl, rfl, rfl, gT_mk rfl e_M_isKept b_M_isKept, trivial⟩, ⟨rfl, rfl, of_seg k1⟩, ⟨rfl, rfl, of_rg k2⟩, ⟨rfl, rfl, of_rg k3⟩, ⟨rfl, rfl, b_M_tape⟩, ⟨rfl, rfl, of_rg k4⟩, ⟨rfl, rfl, of_rg rg_top⟩, ⟨rfl, rfl, of_rg rg_top⟩, ⟨rfl, rfl, of_rg rg_top⟩, trivial⟩⟩

