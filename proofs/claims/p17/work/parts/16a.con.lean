def hc_9ae2f4a29c : List AC := [.inr (11, [.inr (.inr (some (.inl 1))), .inr (.inr (some (.inr 0))), .inr (.inr (some (.inr 1))), .inr (.inr (some (.inl 2))), .inr (.inr (some (.inl 3))), .inr (.inr (some (.inl 4))), .inr (.inr (some (.inl 5))), .inr (.inr (some (.inr 2))), .inr (.inr (some (.inr 205))), .inr (.inr (some (.inr 3))), .inr (.inr (some (.inr 202))), .inl (0, 240), .inl (0, 240), .inl (-2147483648, 2147483647), .inl (-2147483648, 2147483647), .inl (-2147483648, 2147483647), .inl (0, 260), .inl (0, 260), .inl (0, 16), .inr (.inr (some (.inr 200))), .inr (.inr (some (.inr 4))), .inr (.inr (some (.inr 5))), .inr (.inr (some (.inr 6))), .inr (.inr (some (.inr 7))), .inr (.inr (some (.inr 8))), .inr (.inr (some (.inr 9))), .inr (.inr (some (.inl 6))), .inr (.inr (some (.inl 7))), .inr (.inr (some (.inl 8))), .inr (.inr (some (.inl 9))), .inr (.inr (some (.inl 10))), .inr (.inr (some (.inl 11))), .inr (.inr (some (.inl 12))), .inr (.inr (some (.inr 10))), .inr (.inr (some (.inr 11))), .inr (.inr (some (.inr 12))), .inr (.inr (some (.inr 13))), .inl (-2147483648, 2147483647), .inl (-2147483648, 2147483647), .inl (-2147483648, 2147483647), .inl (-2147483648, 2147483647), .inl (-2147483648, 2147483647), .inl (-2147483648, 2147483647), .inl (-2147483648, 2147483647), .inl (-2147483648, 2147483647), .inl (-2147483648, 2147483647), .inl (-2147483648, 2147483647), .inr (.inr (some (.inl 13))), .inr (.inr (some (.inr 14))), .inr (.inr (some (.inr 15))), .inr (.inr (some (.inr 16))), .inr (.inr (some (.inr 17))), .inr (.inr (some (.inr 201)))]), .inl (600, 130, 0, 383), .inl (1016, 8, -1, 383), .inl (1028, 48, 0, 7), .inl (1032, 48, 0, 2), .inl (1058, 384, 0, 1), .inl (5, 260, 100, 0), .inl (0, 16, -2147483648, 2147483647), .inl (5, 16, 101, 0), .inl (5, 16, 102, 0), .inl (5, 16, 103, 0), .inl (0, 260, -2147483648, 2147483647), .inl (0, 9, -2147483648, 2147483647), .inl (0, 48, -2147483648, 2147483647)]
/-! ===== the rows by hand as contracts ===== -/
theorem sel_lt {t i : Nat} (h : t < 3) : sel t i = true := by
  match t, h with
  | 0, _ => rfl
  | 1, _ => rfl
  | 2, _ => rfl
theorem kk_lt {t : Nat} (h : t < 3) : kk t = t := by
  match t, h with
  | 0, _ => rfl
  | 1, _ => rfl
  | 2, _ => rfl
theorem kk_x {t : Nat} (h : Nat.ble 1000 t = true) : kk t = t % 4 := by
  have h1 := Nat.ble_eq.mp h
  unfold kk
  split
  · omega
  · omega
  · rw [show Nat.ble 10 t = true from Nat.ble_eq.mpr (by omega)]
    show (match Nat.ble 1000 t with
      | true => t % 4
      | false => 0) = t % 4
    rw [h]
theorem sel_x {t i : Nat} (h : Nat.ble 1000 t = true) : sel t i = true := by
  have h1 := Nat.ble_eq.mp h
  unfold sel
  split
  · omega
  · omega
  · rw [show Nat.ble 10 t = true from Nat.ble_eq.mpr (by omega)]
    show (match Nat.ble 1000 t with
      | true => true
      | false => match Nat.ble 700 t with
        | true => Nat.beq (i + 700) t
        | false => match Nat.ble 600 t with
          | true => Nat.ble 8 i && Nat.ble i 15
          | false => Nat.beq (i + 2) t) = true
    rw [h]
theorem rg_x {τ : Nat → List (Option Nat)} {t n : Nat} {lo hi : Int} {f : Nat → Int32} (hk : Nat.ble 1000 t = true) (b : ∀ i, i < n → (sel t i = true → lo ≤ (f i).toInt ∧ (f i).toInt ≤ hi) ∧ (t = 5 → f i = decA (τ lo.toNat) i) ∧ (Nat.ble 10 t = true → g3 τ t i (f i))) : (∀ i, i < n → lo ≤ (f i).toInt ∧ (f i).toInt ≤ hi) ∧ ∀ i, i < n → f i = decA (τ (t / 4)) i := ⟨fun i hi' => (b i hi').1 (sel_x hk), fun i hi' => g3_x hk ((b i hi').2.2 (Nat.ble_eq.mpr (by have := Nat.ble_eq.mp hk; omega)))⟩
theorem of_x {τ : Nat → List (Option Nat)} {t n : Nat} {lo hi : Int} {f : Nat → Int32} (hk : Nat.ble 1000 t = true) (b : ∀ i, i < n → lo ≤ (f i).toInt ∧ (f i).toInt ≤ hi) (e : ∀ i, i < n → f i = decA (τ (t / 4)) i) : ∀ i, i < n → (sel t i = true → lo ≤ (f i).toInt ∧ (f i).toInt ≤ hi) ∧ (t = 5 → f i = decA (τ lo.toNat) i) ∧ (Nat.ble 10 t = true → g3 τ t i (f i)) := fun i hi' => ⟨fun _ => b i hi', fun z => absurd hk (by subst z; decide), fun _ => g3_mk hk (e i hi')⟩
theorem rg_of {τ : Nat → List (Option Nat)} {n : Nat} {lo hi : Int} {f : Nat → Int32} (b : ∀ i, i < n → (sel 0 i = true → lo ≤ (f i).toInt ∧ (f i).toInt ≤ hi) ∧ (0 = 5 → f i = decA (τ lo.toNat) i) ∧ (Nat.ble 10 0 = true → g3 τ 0 i (f i))) : rg n lo hi f := fun i hi' => (b i hi').1 rfl
theorem rg_of2 {τ : Nat → List (Option Nat)} {n : Nat} {lo hi : Int} {f : Nat → Int32} (b : ∀ i, i < n → (sel 2 i = true → lo ≤ (f i).toInt ∧ (f i).toInt ≤ hi) ∧ (2 = 5 → f i = decA (τ lo.toNat) i) ∧ (Nat.ble 10 2 = true → g3 τ 2 i (f i))) : rg n lo hi f := fun i hi' => (b i hi').1 rfl
theorem of_rg {τ : Nat → List (Option Nat)} {n : Nat} {lo hi : Int} {f : Nat → Int32} (b : rg n lo hi f) : ∀ i, i < n → (sel 0 i = true → lo ≤ (f i).toInt ∧ (f i).toInt ≤ hi) ∧ (0 = 5 → f i = decA (τ lo.toNat) i) ∧ (Nat.ble 10 0 = true → g3 τ 0 i (f i)) := fun i hi' => ⟨fun _ => b i hi', fun e => (by cases e), fun e => (by cases e)⟩
theorem of_rg2 {τ : Nat → List (Option Nat)} {n : Nat} {lo hi : Int} {f : Nat → Int32} (b : rg n lo hi f) : ∀ i, i < n → (sel 2 i = true → lo ≤ (f i).toInt ∧ (f i).toInt ≤ hi) ∧ (2 = 5 → f i = decA (τ lo.toNat) i) ∧ (Nat.ble 10 2 = true → g3 τ 2 i (f i)) := fun i hi' => ⟨fun _ => b i hi', fun e => (by cases e), fun e => (by cases e)⟩
theorem rg_top {n : Nat} {f : Nat → Int32} : rg n (-2147483648) 2147483647 f := fun i _ => ⟨i32lo _, i32hi _⟩
theorem seg_of {τ : Nat → List (Option Nat)} {f : Nat → Int32} (b : ∀ i, i < 130 → (sel 3 i = true → 0 ≤ (f i).toInt ∧ (f i).toInt ≤ 383) ∧ (3 = 5 → f i = decA (τ (0 : Int).toNat) i) ∧ (Nat.ble 10 3 = true → g3 τ 3 i (f i))) : seg f := fun i i1 i2 => (b i (by omega)).1 (by
  show (Nat.ble 8 i && Nat.ble i 15) = true
  rw [Bool.and_eq_true]
  exact ⟨Nat.ble_eq.mpr i1, Nat.ble_eq.mpr i2⟩)
theorem of_seg {τ : Nat → List (Option Nat)} {f : Nat → Int32} (b : seg f) : ∀ i, i < 130 → (sel 3 i = true → 0 ≤ (f i).toInt ∧ (f i).toInt ≤ 383) ∧ (3 = 5 → f i = decA (τ (0 : Int).toNat) i) ∧ (Nat.ble 10 3 = true → g3 τ 3 i (f i)) := fun i _ => ⟨fun h => by
  have h : (Nat.ble 8 i && Nat.ble i 15) = true := h
  rw [Bool.and_eq_true] at h
  exact b i (Nat.ble_eq.mp h.1) (Nat.ble_eq.mp h.2), fun e => (by cases e), fun e => (by cases e)⟩
theorem ex_of {τ : Nat → List (Option Nat)} {n : Nat} {lo hi : Int} {f : Nat → Int32} (b : ∀ i, i < n → (sel 5 i = true → lo ≤ (f i).toInt ∧ (f i).toInt ≤ hi) ∧ (5 = 5 → f i = decA (τ lo.toNat) i) ∧ (Nat.ble 10 5 = true → g3 τ 5 i (f i))) : ∀ i, i < n → f i = decA (τ lo.toNat) i := fun i hi' => (b i hi').2.1 rfl
theorem lawC_congr {cd cf ch ct cd' cf' ch' ct' : Nat → Int32} {m : Int32} (h : lawC cd cf ch ct m) (e : ∀ i, i < 260 → cd' i = cd i) (e1 : ∀ i, i < 16 → cf' i = cf i) (e2 : ∀ i, i < 16 → ch' i = ch i) (e3 : ∀ i, i < 16 → ct' i = ct i) : lawC cd' cf' ch' ct' m := by
  obtain ⟨h1, h2, h3⟩ := h
  refine ⟨h1, h2, fun q hq => ?_⟩
  obtain ⟨k1, k2⟩ := h3 q hq
  rw [e1 q (by omega), e2 q (by omega), e3 q (by omega)]
  have a1 := k1.2.2.1
  have a2 := k2.2.2.1
  exact ⟨partC_congr (fun k hk => e k (by omega)) k1, partC_congr (fun k hk => e k (by omega)) k2⟩
theorem seg6_of {τ : Nat → List (Option Nat)} {t : Nat} {f : Nat → Int32} (h6 : Nat.ble 600 t = true) (h7 : Nat.ble 700 t = false) (b : ∀ i, i < 130 → (sel t i = true → 0 ≤ (f i).toInt ∧ (f i).toInt ≤ 383) ∧ (t = 5 → f i = decA (τ (0 : Int).toNat) i) ∧ (Nat.ble 10 t = true → g3 τ t i (f i))) : segD (decA (τ (t - 392))) f := ⟨fun i i1 i2 => (b i (by omega)).1 (by
  rw [sel_6 h6 h7, Bool.and_eq_true]
  exact ⟨Nat.ble_eq.mpr i1, Nat.ble_eq.mpr i2⟩), fun i hi => g3_d h7 h6 ((b i (by omega)).2.2 (Nat.ble_eq.mpr (by have := Nat.ble_eq.mp h6; omega))) hi⟩
theorem of_seg6' {τ : Nat → List (Option Nat)} {t : Nat} {f : Nat → Int32} (h6 : Nat.ble 600 t = true) (h7 : Nat.ble 700 t = false) (b : segD (decA (τ (t - 392))) f) : ∀ i, i < 130 → (sel t i = true → 0 ≤ (f i).toInt ∧ (f i).toInt ≤ 383) ∧ (t = 5 → f i = decA (τ (0 : Int).toNat) i) ∧ (Nat.ble 10 t = true → g3 τ t i (f i)) := fun i _ => ⟨fun h => by
  rw [sel_6 h6 h7, Bool.and_eq_true] at h
  exact b.1 i (Nat.ble_eq.mp h.1) (Nat.ble_eq.mp h.2), fun e => (by subst e; cases h6), fun _ => g3_dm h7 h6 (fun e => b.2 i e)⟩
theorem of_seg6 {τ : Nat → List (Option Nat)} {f : Nat → Int32} (b : segD (decA (τ 208)) f) : ∀ i, i < 130 → (sel 600 i = true → 0 ≤ (f i).toInt ∧ (f i).toInt ≤ 383) ∧ (600 = 5 → f i = decA (τ (0 : Int).toNat) i) ∧ (Nat.ble 10 600 = true → g3 τ 600 i (f i)) := of_seg6' (t := 600) rfl rfl b
def C_X12_copies : Con := ([.inr (.inr (some (.inl 0))), .inr (.inr (some (.inl 1)))], [.inl (3, 130, 0, 383), .inl (3, 130, 0, 383)], [(none, [.inl (3, 130, 0, 383), .inl (3, 130, 0, 383)])])
theorem s_X12_copies {l : Launch} : conOk (MetP l 0 yX12_copies cX12_copies 3 none 0 0) C_X12_copies := by
  intro τ hΦ as h ha hh
  have z := all2_cons ha
  clear ha
  obtain ⟨v0, as, rfl, q0, ha⟩ := z
  cases (q0 : v0 = .inr (some (.inl 0)))
  have z := all2_cons ha
  clear ha
  obtain ⟨v0, as, rfl, q0, ha⟩ := z
  cases (q0 : v0 = .inr (some (.inl 1)))
  cases as with
  | cons _ _ => exact ha.elim
  | nil =>
    have z := all2_cons hh
    clear hh
    obtain ⟨e1, h, rfl, g1, hh⟩ := z
    rcases e1 with ⟨t1, n1, f⟩ | ⟨ci, fs⟩
    rotate_left
    · exact g1.elim
    obtain ⟨et, en, bf⟩ := g1
    cases (et : t1 = 0)
    cases en
    have z := all2_cons hh
    clear hh
    obtain ⟨e1, h, rfl, g1, hh⟩ := z
    rcases e1 with ⟨t1, n1, g⟩ | ⟨ci, fs⟩
    rotate_left
    · exact g1.elim
    obtain ⟨et, en, bg⟩ := g1
    cases (et : t1 = 0)
    cases en
    cases h with
    | cons _ _ => exact hh.elim
    | nil =>
      refine c_X12_copies.mono (fun r h' hp => ?_)
      obtain ⟨rfl, g', hg, rfl⟩ := hp
      exact ⟨_, List.mem_singleton.mpr rfl, rfl, ⟨rfl, rfl, bf⟩, ⟨rfl, rfl, of_seg (seg_congr hg (seg_of bf))⟩, trivial⟩
def C_X12_copies_d : Con := ([.inr (.inr (some (.inl 0))), .inr (.inr (some (.inl 1)))], [.inl (600, 130, 0, 383), .inl (3, 130, 0, 383)], [(none, [.inl (600, 130, 0, 383), .inl (600, 130, 0, 383)])])
theorem s_X12_copies_d {l : Launch} : conOk (MetP l 0 yX12_copies cX12_copies 3 none 0 0) C_X12_copies_d := by
  intro τ hΦ as h ha hh
  have z := all2_cons ha
  clear ha
  obtain ⟨v0, as, rfl, q0, ha⟩ := z
  cases (q0 : v0 = .inr (some (.inl 0)))
  have z := all2_cons ha
  clear ha
  obtain ⟨v0, as, rfl, q0, ha⟩ := z
  cases (q0 : v0 = .inr (some (.inl 1)))
  cases as with
  | cons _ _ => exact ha.elim
  | nil =>
    have z := all2_cons hh
    clear hh
    obtain ⟨e1, h, rfl, g1, hh⟩ := z
    rcases e1 with ⟨t1, n1, f⟩ | ⟨ci, fs⟩
    rotate_left
    · exact g1.elim
    obtain ⟨et, en, bf⟩ := g1
    cases (et : t1 = 0)
    cases en
    have z := all2_cons hh
    clear hh
    obtain ⟨e1, h, rfl, g1, hh⟩ := z
    rcases e1 with ⟨t1, n1, g⟩ | ⟨ci, fs⟩
    rotate_left
    · exact g1.elim
    obtain ⟨et, en, bg⟩ := g1
    cases (et : t1 = 0)
    cases en
    cases h with
    | cons _ _ => exact hh.elim
    | nil =>
      refine c_X12_copies.mono (fun r h' hp => ?_)
      obtain ⟨rfl, g', hg, rfl⟩ := hp
      exact ⟨_, List.mem_singleton.mpr rfl, rfl, ⟨rfl, rfl, bf⟩, ⟨rfl, rfl, of_seg6 (segD_congr hg (seg6_of (t := 600) rfl rfl bf))⟩, trivial⟩
def C_X12_letterGoes : Con := ([.inr (.inr (some (.inl 0))), .inl (0, 7)], hc_9ae2f4a29c, [(none, hc_9ae2f4a29c)])
set_option maxRecDepth 100000 in
theorem s_X12_letterGoes {l : Launch} : conOk (MetP l 6 yX12_letterGoes cX12_letterGoes 5 none 0 0) C_X12_letterGoes := by
  intro τ hΦ as h ha hh
  have z := all2_cons ha
  clear ha
  obtain ⟨v0, as, rfl, q0, ha⟩ := z
  cases (q0 : v0 = .inr (some (.inl 0)))
  have z := all2_cons ha
  clear ha
  obtain ⟨v0, as, rfl, q0, ha⟩ := z
  obtain ⟨x, rfl, b_x⟩ := q0
  cases as with
  | cons _ _ => exact ha.elim
  | nil =>
    obtain ⟨t, ht, rfl⟩ := rng_n (x := x) (k := 7) b_x.1 b_x.2
    have z := all2_cons hh
    clear hh
    obtain ⟨e0, h, rfl, g0, hh⟩ := z
    rcases e0 with ⟨t0, n0, f0⟩ | ⟨ci, fs⟩
    · exact g0.elim
    obtain ⟨rfl, gf⟩ := g0
    have z := all2_cons gf
    clear gf
    obtain ⟨v0, fs, rfl, q0, gf⟩ := z
    cases (q0 : v0 = .inr (some (.inl 1)))
    have z := all2_cons gf
    clear gf
    obtain ⟨v0, fs, rfl, q0, gf⟩ := z
    cases gT_r (τ := τ) (t := 0) (v := v0) rfl q0
    have z := all2_cons gf
    clear gf
    obtain ⟨v0, fs, rfl, q0, gf⟩ := z
    cases gT_r (τ := τ) (t := 1) (v := v0) rfl q0
    have z := all2_cons gf
    clear gf
    obtain ⟨v0, fs, rfl, q0, gf⟩ := z
    cases (q0 : v0 = .inr (some (.inl 2)))
    have z := all2_cons gf
    clear gf
    obtain ⟨v0, fs, rfl, q0, gf⟩ := z
    cases (q0 : v0 = .inr (some (.inl 3)))
    have z := all2_cons gf
    clear gf
    obtain ⟨v0, fs, rfl, q0, gf⟩ := z
    cases (q0 : v0 = .inr (some (.inl 4)))
    have z := all2_cons gf
    clear gf
    obtain ⟨v0, fs, rfl, q0, gf⟩ := z
    cases (q0 : v0 = .inr (some (.inl 5)))
    have z := all2_cons gf
    clear gf
    obtain ⟨v0, fs, rfl, q0, gf⟩ := z
    cases gT_r (τ := τ) (t := 2) (v := v0) rfl q0
    have z := all2_cons gf
    clear gf
    obtain ⟨v0, fs, rfl, q0, gf⟩ := z
    obtain ⟨M_stampMany, rfl, e_stampMany, b_stampMany⟩ := gT_x (τ := τ) (t := 205) (v := v0) rfl q0
    have z := all2_cons gf
    clear gf
    obtain ⟨v0, fs, rfl, q0, gf⟩ := z
    cases gT_r (τ := τ) (t := 3) (v := v0) rfl q0
    have z := all2_cons gf
    clear gf
    obtain ⟨v0, fs, rfl, q0, gf⟩ := z
    obtain ⟨M_taped, rfl, e_taped, b_taped⟩ := gT_x (τ := τ) (t := 202) (v := v0) rfl q0
    have z := all2_cons gf
    clear gf
    obtain ⟨v0, fs, rfl, q0, gf⟩ := z
    obtain ⟨M_place0, rfl, b_place0⟩ := q0
    have z := all2_cons gf
    clear gf
    obtain ⟨v0, fs, rfl, q0, gf⟩ := z
    obtain ⟨M_length0, rfl, b_length0⟩ := q0
    have z := all2_cons gf
    clear gf
    obtain ⟨v0, fs, rfl, q0, gf⟩ := z
    obtain ⟨M_fault, rfl, b_fault⟩ := q0
    have z := all2_cons gf
    clear gf
    obtain ⟨v0, fs, rfl, q0, gf⟩ := z
    obtain ⟨M_number0, rfl, b_number0⟩ := q0
    have z := all2_cons gf
    clear gf
    obtain ⟨v0, fs, rfl, q0, gf⟩ := z
    obtain ⟨M_open, rfl, b_open⟩ := q0
    have z := all2_cons gf
    clear gf
    obtain ⟨v0, fs, rfl, q0, gf⟩ := z
    obtain ⟨M_codeMany, rfl, b_codeMany⟩ := q0
    have z := all2_cons gf
    clear gf
    obtain ⟨v0, fs, rfl, q0, gf⟩ := z
    obtain ⟨M_waiting, rfl, b_waiting⟩ := q0
    have z := all2_cons gf
    clear gf
    obtain ⟨v0, fs, rfl, q0, gf⟩ := z
    obtain ⟨M_saidMany, rfl, b_saidMany⟩ := q0
    have z := all2_cons gf
    clear gf
    obtain ⟨v0, fs, rfl, q0, gf⟩ := z
    cases gT_i (τ := τ) (t := 200) (v := v0) rfl q0
    have z := all2_cons gf
    clear gf
    obtain ⟨v0, fs, rfl, q0, gf⟩ := z
    cases gT_r (τ := τ) (t := 4) (v := v0) rfl q0
    have z := all2_cons gf
    clear gf
    obtain ⟨v0, fs, rfl, q0, gf⟩ := z
    cases gT_r (τ := τ) (t := 5) (v := v0) rfl q0
    have z := all2_cons gf
    clear gf
    obtain ⟨v0, fs, rfl, q0, gf⟩ := z
    cases gT_r (τ := τ) (t := 6) (v := v0) rfl q0
    have z := all2_cons gf
    clear gf
    obtain ⟨v0, fs, rfl, q0, gf⟩ := z
    cases gT_r (τ := τ) (t := 7) (v := v0) rfl q0
    have z := all2_cons gf
    clear gf
    obtain ⟨v0, fs, rfl, q0, gf⟩ := z
    cases gT_r (τ := τ) (t := 8) (v := v0) rfl q0
    have z := all2_cons gf
    clear gf
    obtain ⟨v0, fs, rfl, q0, gf⟩ := z
    cases gT_r (τ := τ) (t := 9) (v := v0) rfl q0
    have z := all2_cons gf
    clear gf
    obtain ⟨v0, fs, rfl, q0, gf⟩ := z
    cases (q0 : v0 = .inr (some (.inl 6)))
    have z := all2_cons gf
    clear gf
    obtain ⟨v0, fs, rfl, q0, gf⟩ := z
    cases (q0 : v0 = .inr (some (.inl 7)))
    have z := all2_cons gf
    clear gf
    obtain ⟨v0, fs, rfl, q0, gf⟩ := z
    cases (q0 : v0 = .inr (some (.inl 8)))
    have z := all2_cons gf
    clear gf
    obtain ⟨v0, fs, rfl, q0, gf⟩ := z
    cases (q0 : v0 = .inr (some (.inl 9)))
    have z := all2_cons gf
    clear gf
    obtain ⟨v0, fs, rfl, q0, gf⟩ := z
    cases (q0 : v0 = .inr (some (.inl 10)))
    have z := all2_cons gf
    clear gf
    obtain ⟨v0, fs, rfl, q0, gf⟩ := z
    cases (q0 : v0 = .inr (some (.inl 11)))
    have z := all2_cons gf
    clear gf
    obtain ⟨v0, fs, rfl, q0, gf⟩ := z
    cases (q0 : v0 = .inr (some (.inl 12)))
    have z := all2_cons gf
    clear gf
    obtain ⟨v0, fs, rfl, q0, gf⟩ := z
    cases gT_r (τ := τ) (t := 10) (v := v0) rfl q0
    have z := all2_cons gf
    clear gf
    obtain ⟨v0, fs, rfl, q0, gf⟩ := z
    cases gT_r (τ := τ) (t := 11) (v := v0) rfl q0
    have z := all2_cons gf
    clear gf
    obtain ⟨v0, fs, rfl, q0, gf⟩ := z
    cases gT_r (τ := τ) (t := 12) (v := v0) rfl q0
    have z := all2_cons gf
    clear gf
    obtain ⟨v0, fs, rfl, q0, gf⟩ := z
    cases gT_r (τ := τ) (t := 13) (v := v0) rfl q0
    have z := all2_cons gf
    clear gf
    obtain ⟨v0, fs, rfl, q0, gf⟩ := z
    obtain ⟨M_newMany, rfl, b_newMany⟩ := q0
    have z := all2_cons gf
    clear gf
    obtain ⟨v0, fs, rfl, q0, gf⟩ := z
    obtain ⟨M_rounds, rfl, b_rounds⟩ := q0
    have z := all2_cons gf
    clear gf
    obtain ⟨v0, fs, rfl, q0, gf⟩ := z
    obtain ⟨M_stampFrom, rfl, b_stampFrom⟩ := q0
    have z := all2_cons gf
    clear gf
    obtain ⟨v0, fs, rfl, q0, gf⟩ := z
    obtain ⟨M_stampTimes, rfl, b_stampTimes⟩ := q0
    have z := all2_cons gf
    clear gf
    obtain ⟨v0, fs, rfl, q0, gf⟩ := z
    obtain ⟨M_lines, rfl, b_lines⟩ := q0
    have z := all2_cons gf
    clear gf
    obtain ⟨v0, fs, rfl, q0, gf⟩ := z
    obtain ⟨M_spot0, rfl, b_spot0⟩ := q0
    have z := all2_cons gf
    clear gf
    obtain ⟨v0, fs, rfl, q0, gf⟩ := z
    obtain ⟨M_pullAcross, rfl, b_pullAcross⟩ := q0
    have z := all2_cons gf
    clear gf
    obtain ⟨v0, fs, rfl, q0, gf⟩ := z
    obtain ⟨M_pullAlong, rfl, b_pullAlong⟩ := q0
    have z := all2_cons gf
    clear gf
    obtain ⟨v0, fs, rfl, q0, gf⟩ := z
    obtain ⟨M_stepsNow, rfl, b_stepsNow⟩ := q0
    have z := all2_cons gf
    clear gf
    obtain ⟨v0, fs, rfl, q0, gf⟩ := z
    obtain ⟨M_fallenNow, rfl, b_fallenNow⟩ := q0
    have z := all2_cons gf
    clear gf
    obtain ⟨v0, fs, rfl, q0, gf⟩ := z
    cases (q0 : v0 = .inr (some (.inl 13)))
    have z := all2_cons gf
    clear gf
    obtain ⟨v0, fs, rfl, q0, gf⟩ := z
    cases gT_r (τ := τ) (t := 14) (v := v0) rfl q0
    have z := all2_cons gf
    clear gf
    obtain ⟨v0, fs, rfl, q0, gf⟩ := z
    cases gT_r (τ := τ) (t := 15) (v := v0) rfl q0
    have z := all2_cons gf
    clear gf
    obtain ⟨v0, fs, rfl, q0, gf⟩ := z
    cases gT_r (τ := τ) (t := 16) (v := v0) rfl q0
    have z := all2_cons gf
    clear gf
    obtain ⟨v0, fs, rfl, q0, gf⟩ := z
    cases gT_r (τ := τ) (t := 17) (v := v0) rfl q0
    have z := all2_cons gf
    clear gf
    obtain ⟨v0, fs, rfl, q0, gf⟩ := z
    obtain ⟨M_isKept, rfl, e_isKept, b_isKept⟩ := gT_x (τ := τ) (t := 201) (v := v0) rfl q0
    cases fs with
    | cons _ _ => exact gf.elim
    | nil =>
      have z := all2_cons hh
      clear hh
      obtain ⟨e1, h, rfl, g1, hh⟩ := z
      rcases e1 with ⟨t1, n1, M_now⟩ | ⟨ci, fs⟩
      rotate_left
      · exact g1.elim
      obtain ⟨et, en, b_now⟩ := g1
      cases (et : t1 = 0)
      cases en
      have z := all2_cons hh
      clear hh
      obtain ⟨e1, h, rfl, g1, hh⟩ := z
      rcases e1 with ⟨t1, n1, M_mintAt⟩ | ⟨ci, fs⟩
      rotate_left
      · exact g1.elim
      obtain ⟨et, en, b_mintAt⟩ := g1
      cases (et : t1 = 0)
      cases en
      have z := all2_cons hh
      clear hh
      obtain ⟨e1, h, rfl, g1, hh⟩ := z
      rcases e1 with ⟨t1, n1, M_mintOf⟩ | ⟨ci, fs⟩
      rotate_left
      · exact g1.elim
      obtain ⟨et, en, b_mintOf⟩ := g1
      cases (et : t1 = 0)
      cases en
      have z := all2_cons hh
      clear hh
      obtain ⟨e1, h, rfl, g1, hh⟩ := z
      rcases e1 with ⟨t1, n1, M_wholeOf⟩ | ⟨ci, fs⟩
      rotate_left
      · exact g1.elim
      obtain ⟨et, en, b_wholeOf⟩ := g1
      cases (et : t1 = 0)
      cases en
      have z := all2_cons hh
      clear hh
      obtain ⟨e1, h, rfl, g1, hh⟩ := z
      rcases e1 with ⟨t1, n1, M_isWall⟩ | ⟨ci, fs⟩
      rotate_left
      · exact g1.elim
      obtain ⟨et, en, b_isWall⟩ := g1
      cases (et : t1 = 2)
      cases en
      have z := all2_cons hh
      clear hh
      obtain ⟨e1, h, rfl, g1, hh⟩ := z
      rcases e1 with ⟨t1, n1, M_codes⟩ | ⟨ci, fs⟩
      rotate_left
      · exact g1.elim
      obtain ⟨et, en, b_codes⟩ := g1
      cases (et : t1 = 0)
      cases en
      have z := all2_cons hh
      clear hh
      obtain ⟨e1, h, rfl, g1, hh⟩ := z
      rcases e1 with ⟨t1, n1, M_clauseOf⟩ | ⟨ci, fs⟩
      rotate_left
      · exact g1.elim
      obtain ⟨et, en, b_clauseOf⟩ := g1
      cases (et : t1 = 0)
      cases en
      have z := all2_cons hh
      clear hh
      obtain ⟨e1, h, rfl, g1, hh⟩ := z
      rcases e1 with ⟨t1, n1, M_codeFrom⟩ | ⟨ci, fs⟩
      rotate_left
      · exact g1.elim
      obtain ⟨et, en, b_codeFrom⟩ := g1
      cases (et : t1 = 0)
      cases en
      have z := all2_cons hh
      clear hh
      obtain ⟨e1, h, rfl, g1, hh⟩ := z
      rcases e1 with ⟨t1, n1, M_codeHalf⟩ | ⟨ci, fs⟩
      rotate_left
      · exact g1.elim
      obtain ⟨et, en, b_codeHalf⟩ := g1
      cases (et : t1 = 0)
      cases en
      have z := all2_cons hh
      clear hh
      obtain ⟨e1, h, rfl, g1, hh⟩ := z
      rcases e1 with ⟨t1, n1, M_codeTo⟩ | ⟨ci, fs⟩
      rotate_left
      · exact g1.elim
      obtain ⟨et, en, b_codeTo⟩ := g1
      cases (et : t1 = 0)
      cases en
      have z := all2_cons hh
      clear hh
      obtain ⟨e1, h, rfl, g1, hh⟩ := z
      rcases e1 with ⟨t1, n1, M_stack⟩ | ⟨ci, fs⟩
      rotate_left
      · exact g1.elim
      obtain ⟨et, en, b_stack⟩ := g1
      cases (et : t1 = 0)
      cases en
      have z := all2_cons hh
      clear hh
      obtain ⟨e1, h, rfl, g1, hh⟩ := z
      rcases e1 with ⟨t1, n1, M_facts⟩ | ⟨ci, fs⟩
      rotate_left
      · exact g1.elim
      obtain ⟨et, en, b_facts⟩ := g1
      cases (et : t1 = 0)
      cases en
      have z := all2_cons hh
      clear hh
      obtain ⟨e1, h, rfl, g1, hh⟩ := z
      rcases e1 with ⟨t1, n1, M_usesNow⟩ | ⟨ci, fs⟩
      rotate_left
      · exact g1.elim
      obtain ⟨et, en, b_usesNow⟩ := g1
      cases (et : t1 = 0)
      cases en
      cases h with
      | cons _ _ => exact hh.elim
      | nil =>
      refine (c_X12_letterGoes b_stampMany (by omega) (seg6_of (t := 600) rfl rfl b_now).1 ((rg_x rfl b_mintOf).1) ((rg_x rfl b_mintAt).1) (lawC_congr hΦ (ex_of b_codes) (ex_of b_codeFrom) (ex_of b_codeHalf) (ex_of b_codeTo))).mono (fun r h' hp => ?_)
      obtain ⟨rfl, nw, fc, sk, us, pa, pl, fl, sn, k1, rfl⟩ := hp
      exact ⟨_, List.mem_singleton.mpr rfl, rfl, ⟨⟨rfl, rfl, rfl, rfl, rfl, rfl, rfl, rfl, rfl, gT_mk rfl e_stampMany b_stampMany, rfl, gT_mk rfl e_taped b_taped, ⟨_, rfl, b_place0⟩, ⟨_, rfl, b_length0⟩, ⟨_, rfl, b_fault⟩, ⟨_, rfl, b_number0⟩, ⟨_, rfl, b_open⟩, ⟨_, rfl, b_codeMany⟩, ⟨_, rfl, b_waiting⟩, ⟨_, rfl, b_saidMany⟩, gT_mk (t := 200) rfl rfl ⟨i32lo _, i32hi _⟩, rfl, rfl, rfl, rfl, rfl, rfl, rfl, rfl, rfl, rfl, rfl, rfl, rfl, rfl, rfl, rfl, rfl, ⟨_, rfl, b_newMany⟩, ⟨_, rfl, b_rounds⟩, ⟨_, rfl, b_stampFrom⟩, ⟨_, rfl, b_stampTimes⟩, ⟨_, rfl, b_lines⟩, ⟨_, rfl, b_spot0⟩, topA_ok _, topA_ok _, topA_ok _, topA_ok _, rfl, rfl, rfl, rfl, rfl, gT_mk rfl e_isKept b_isKept, trivial⟩, ⟨rfl, rfl, of_seg6 ⟨k1.1, fun i hi => (k1.2 i hi).trans ((seg6_of (t := 600) rfl rfl b_now).2 i hi)⟩⟩, ⟨rfl, rfl, b_mintAt⟩, ⟨rfl, rfl, b_mintOf⟩, ⟨rfl, rfl, b_wholeOf⟩, ⟨rfl, rfl, b_isWall⟩, ⟨rfl, rfl, b_codes⟩, ⟨rfl, rfl, b_clauseOf⟩, ⟨rfl, rfl, b_codeFrom⟩, ⟨rfl, rfl, b_codeHalf⟩, ⟨rfl, rfl, b_codeTo⟩, ⟨rfl, rfl, of_rg rg_top⟩, ⟨rfl, rfl, of_rg rg_top⟩, ⟨rfl, rfl, of_rg rg_top⟩, trivial⟩⟩
theorem tp_or {x y : Int32} {N : Prop} (h : (x = y ∧ N) ∨ x = 0) (hy : 0 ≤ y.toInt ∧ y.toInt ≤ 260) : 0 ≤ x.toInt ∧ x.toInt ≤ 260 := by
  rcases h with ⟨rfl, _⟩ | rfl
  · exact hy
  · decide

