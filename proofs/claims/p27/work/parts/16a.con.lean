/-! ===== the rows by hand as contracts ===== -/
theorem sel_lt {t i : Nat} (h : t < 3) : sel t i = true := by
  match t, h with
  | 0, _ => rfl
  | 1, _ => rfl
  | 2, _ => rfl
theorem kk_lt {t : Nat} (h : t < 3) : kk t = t := by
  match t, h with
  | 0, _ => rfl
  | 1, _ => rfl
  | 2, _ => rfl
theorem kk_x {t : Nat} (h : Nat.ble 1000 t = true) : kk t = t % 4 := by
  have h1 := Nat.ble_eq.mp h
  unfold kk
  split
  · omega
  · omega
  · rw [show Nat.ble 10 t = true from Nat.ble_eq.mpr (by omega)]
    show (match Nat.ble 1000 t with
      | true => t % 4
      | false => 0) = t % 4
    rw [h]
theorem sel_x {t i : Nat} (h : Nat.ble 1000 t = true) : sel t i = true := by
  have h1 := Nat.ble_eq.mp h
  unfold sel
  split
  · omega
  · omega
  · rw [show Nat.ble 10 t = true from Nat.ble_eq.mpr (by omega)]
    show (match Nat.ble 1000 t with
      | true => true
      | false => match Nat.ble 700 t with
        | true => Nat.beq (i + 700) t
        | false => match Nat.ble 600 t with
          | true => Nat.ble 8 i && Nat.ble i 15
          | false => Nat.beq (i + 2) t) = true
    rw [h]
theorem rg_x {τ : Nat → List (Option Nat)} {t n : Nat} {lo hi : Int} {f : Nat → Int32} (hk : Nat.ble 1000 t = true) (b : ∀ i, i < n → (sel t i = true → lo ≤ (f i).toInt ∧ (f i).toInt ≤ hi) ∧ (t = 5 → f i = decA (τ lo.toNat) i) ∧ (Nat.ble 10 t = true → g3 τ t i (f i))) : (∀ i, i < n → lo ≤ (f i).toInt ∧ (f i).toInt ≤ hi) ∧ ∀ i, i < n → f i = decA (τ (t / 4)) i := ⟨fun i hi' => (b i hi').1 (sel_x hk), fun i hi' => g3_x hk ((b i hi').2.2 (Nat.ble_eq.mpr (by have := Nat.ble_eq.mp hk; omega)))⟩
theorem of_x {τ : Nat → List (Option Nat)} {t n : Nat} {lo hi : Int} {f : Nat → Int32} (hk : Nat.ble 1000 t = true) (b : ∀ i, i < n → lo ≤ (f i).toInt ∧ (f i).toInt ≤ hi) (e : ∀ i, i < n → f i = decA (τ (t / 4)) i) : ∀ i, i < n → (sel t i = true → lo ≤ (f i).toInt ∧ (f i).toInt ≤ hi) ∧ (t = 5 → f i = decA (τ lo.toNat) i) ∧ (Nat.ble 10 t = true → g3 τ t i (f i)) := fun i hi' => ⟨fun _ => b i hi', fun z => absurd hk (by subst z; decide), fun _ => g3_mk hk (e i hi')⟩
theorem rg_of {τ : Nat → List (Option Nat)} {n : Nat} {lo hi : Int} {f : Nat → Int32} (b : ∀ i, i < n → (sel 0 i = true → lo ≤ (f i).toInt ∧ (f i).toInt ≤ hi) ∧ (0 = 5 → f i = decA (τ lo.toNat) i) ∧ (Nat.ble 10 0 = true → g3 τ 0 i (f i))) : rg n lo hi f := fun i hi' => (b i hi').1 rfl
theorem rg_of2 {τ : Nat → List (Option Nat)} {n : Nat} {lo hi : Int} {f : Nat → Int32} (b : ∀ i, i < n → (sel 2 i = true → lo ≤ (f i).toInt ∧ (f i).toInt ≤ hi) ∧ (2 = 5 → f i = decA (τ lo.toNat) i) ∧ (Nat.ble 10 2 = true → g3 τ 2 i (f i))) : rg n lo hi f := fun i hi' => (b i hi').1 rfl
theorem of_rg {τ : Nat → List (Option Nat)} {n : Nat} {lo hi : Int} {f : Nat → Int32} (b : rg n lo hi f) : ∀ i, i < n → (sel 0 i = true → lo ≤ (f i).toInt ∧ (f i).toInt ≤ hi) ∧ (0 = 5 → f i = decA (τ lo.toNat) i) ∧ (Nat.ble 10 0 = true → g3 τ 0 i (f i)) := fun i hi' => ⟨fun _ => b i hi', fun e => (by cases e), fun e => (by cases e)⟩
theorem of_rg2 {τ : Nat → List (Option Nat)} {n : Nat} {lo hi : Int} {f : Nat → Int32} (b : rg n lo hi f) : ∀ i, i < n → (sel 2 i = true → lo ≤ (f i).toInt ∧ (f i).toInt ≤ hi) ∧ (2 = 5 → f i = decA (τ lo.toNat) i) ∧ (Nat.ble 10 2 = true → g3 τ 2 i (f i)) := fun i hi' => ⟨fun _ => b i hi', fun e => (by cases e), fun e => (by cases e)⟩
theorem rg_top {n : Nat} {f : Nat → Int32} : rg n (-2147483648) 2147483647 f := fun i _ => ⟨i32lo _, i32hi _⟩
theorem seg_of {τ : Nat → List (Option Nat)} {f : Nat → Int32} (b : ∀ i, i < 130 → (sel 3 i = true → 0 ≤ (f i).toInt ∧ (f i).toInt ≤ 383) ∧ (3 = 5 → f i = decA (τ (0 : Int).toNat) i) ∧ (Nat.ble 10 3 = true → g3 τ 3 i (f i))) : seg f := fun i i1 i2 => (b i (by omega)).1 (by
  show (Nat.ble 8 i && Nat.ble i 15) = true
  rw [Bool.and_eq_true]
  exact ⟨Nat.ble_eq.mpr i1, Nat.ble_eq.mpr i2⟩)
theorem of_seg {τ : Nat → List (Option Nat)} {f : Nat → Int32} (b : seg f) : ∀ i, i < 130 → (sel 3 i = true → 0 ≤ (f i).toInt ∧ (f i).toInt ≤ 383) ∧ (3 = 5 → f i = decA (τ (0 : Int).toNat) i) ∧ (Nat.ble 10 3 = true → g3 τ 3 i (f i)) := fun i _ => ⟨fun h => by
  have h : (Nat.ble 8 i && Nat.ble i 15) = true := h
  rw [Bool.and_eq_true] at h
  exact b i (Nat.ble_eq.mp h.1) (Nat.ble_eq.mp h.2), fun e => (by cases e), fun e => (by cases e)⟩
theorem ex_of {τ : Nat → List (Option Nat)} {n : Nat} {lo hi : Int} {f : Nat → Int32} (b : ∀ i, i < n → (sel 5 i = true → lo ≤ (f i).toInt ∧ (f i).toInt ≤ hi) ∧ (5 = 5 → f i = decA (τ lo.toNat) i) ∧ (Nat.ble 10 5 = true → g3 τ 5 i (f i))) : ∀ i, i < n → f i = decA (τ lo.toNat) i := fun i hi' => (b i hi').2.1 rfl
theorem lawC_congr {cd cf ch ct cd' cf' ch' ct' : Nat → Int32} {m : Int32} (h : lawC cd cf ch ct m) (e : ∀ i, i < 260 → cd' i = cd i) (e1 : ∀ i, i < 16 → cf' i = cf i) (e2 : ∀ i, i < 16 → ch' i = ch i) (e3 : ∀ i, i < 16 → ct' i = ct i) : lawC cd' cf' ch' ct' m := by
  obtain ⟨h1, h2, h3⟩ := h
  refine ⟨h1, h2, fun q hq => ?_⟩
  obtain ⟨k1, k2⟩ := h3 q hq
  rw [e1 q (by omega), e2 q (by omega), e3 q (by omega)]
  have a1 := k1.2.2.1
  have a2 := k2.2.2.1
  exact ⟨partC_congr (fun k hk => e k (by omega)) k1, partC_congr (fun k hk => e k (by omega)) k2⟩
theorem seg6_of {τ : Nat → List (Option Nat)} {t : Nat} {f : Nat → Int32} (h6 : Nat.ble 600 t = true) (h7 : Nat.ble 700 t = false) (b : ∀ i, i < 130 → (sel t i = true → 0 ≤ (f i).toInt ∧ (f i).toInt ≤ 383) ∧ (t = 5 → f i = decA (τ (0 : Int).toNat) i) ∧ (Nat.ble 10 t = true → g3 τ t i (f i))) : segD (decA (τ (t - 392)) 0) f := ⟨fun i i1 i2 => (b i (by omega)).1 (by
  rw [sel_6 h6 h7, Bool.and_eq_true]
  exact ⟨Nat.ble_eq.mpr i1, Nat.ble_eq.mpr i2⟩), g3_d h7 h6 ((b 128 (by omega)).2.2 (Nat.ble_eq.mpr (by have := Nat.ble_eq.mp h6; omega))) rfl⟩
theorem of_seg6' {τ : Nat → List (Option Nat)} {t : Nat} {f : Nat → Int32} (h6 : Nat.ble 600 t = true) (h7 : Nat.ble 700 t = false) (b : segD (decA (τ (t - 392)) 0) f) : ∀ i, i < 130 → (sel t i = true → 0 ≤ (f i).toInt ∧ (f i).toInt ≤ 383) ∧ (t = 5 → f i = decA (τ (0 : Int).toNat) i) ∧ (Nat.ble 10 t = true → g3 τ t i (f i)) := fun i _ => ⟨fun h => by
  rw [sel_6 h6 h7, Bool.and_eq_true] at h
  exact b.1 i (Nat.ble_eq.mp h.1) (Nat.ble_eq.mp h.2), fun e => (by subst e; cases h6), fun _ => g3_dm h7 h6 (fun e => by subst e; exact b.2)⟩
theorem of_seg6 {τ : Nat → List (Option Nat)} {f : Nat → Int32} (h : Nat.ble 600 600 = true) (b : segD (decA (τ 208) 0) f) : ∀ i, i < 130 → (sel 600 i = true → 0 ≤ (f i).toInt ∧ (f i).toInt ≤ 383) ∧ (600 = 5 → f i = decA (τ (0 : Int).toNat) i) ∧ (Nat.ble 10 600 = true → g3 τ 600 i (f i)) := of_seg6' (t := 600) rfl rfl b
def C_X12_copies : Con := ([.inr (.inr (some (.inl 0))), .inr (.inr (some (.inl 1)))], [.inl (3, 130, 0, 383), .inl (3, 130, 0, 383)], [(none, [.inl (3, 130, 0, 383), .inl (3, 130, 0, 383)])])
theorem s_X12_copies {l : Launch} : conOk (MetP l 0 yX12_copies cX12_copies 3 none 0 0) C_X12_copies := by
  intro τ hΦ as h ha hh
  have z := all2_cons ha
  clear ha
  obtain ⟨v0, as, rfl, q0, ha⟩ := z
  cases (q0 : v0 = .inr (some (.inl 0)))
  have z := all2_cons ha
  clear ha
  obtain ⟨v0, as, rfl, q0, ha⟩ := z
  cases (q0 : v0 = .inr (some (.inl 1)))
  cases as with
  | cons _ _ => exact ha.elim
  | nil =>
    have z := all2_cons hh
    clear hh
    obtain ⟨e1, h, rfl, g1, hh⟩ := z
    rcases e1 with ⟨t1, n1, f⟩ | ⟨ci, fs⟩
    rotate_left
    · exact g1.elim
    obtain ⟨et, en, bf⟩ := g1
    cases (et : t1 = 0)
    cases en
    have z := all2_cons hh
    clear hh
    obtain ⟨e1, h, rfl, g1, hh⟩ := z
    rcases e1 with ⟨t1, n1, g⟩ | ⟨ci, fs⟩
    rotate_left
    · exact g1.elim
    obtain ⟨et, en, bg⟩ := g1
    cases (et : t1 = 0)
    cases en
    cases h with
    | cons _ _ => exact hh.elim
    | nil =>
      refine c_X12_copies.mono (fun r h' hp => ?_)
      obtain ⟨rfl, g', hg, rfl⟩ := hp
      exact ⟨_, List.mem_singleton.mpr rfl, rfl, ⟨rfl, rfl, bf⟩, ⟨rfl, rfl, of_seg (seg_congr hg (seg_of bf))⟩, trivial⟩
def C_X12_copies_d : Con := ([.inr (.inr (some (.inl 0))), .inr (.inr (some (.inl 1)))], [.inl (600, 130, 0, 383), .inl (3, 130, 0, 383)], [(none, [.inl (600, 130, 0, 383), .inl (600, 130, 0, 383)])])
theorem s_X12_copies_d {l : Launch} : conOk (MetP l 0 yX12_copies cX12_copies 3 none 0 0) C_X12_copies_d := by
  intro τ hΦ as h ha hh
  have z := all2_cons ha
  clear ha
  obtain ⟨v0, as, rfl, q0, ha⟩ := z
  cases (q0 : v0 = .inr (some (.inl 0)))
  have z := all2_cons ha
  clear ha
  obtain ⟨v0, as, rfl, q0, ha⟩ := z
  cases (q0 : v0 = .inr (some (.inl 1)))
  cases as with
  | cons _ _ => exact ha.elim
  | nil =>
    have z := all2_cons hh
    clear hh
    obtain ⟨e1, h, rfl, g1, hh⟩ := z
    rcases e1 with ⟨t1, n1, f⟩ | ⟨ci, fs⟩
    rotate_left
    · exact g1.elim
    obtain ⟨et, en, bf⟩ := g1
    cases (et : t1 = 0)
    cases en
    have z := all2_cons hh
    clear hh
    obtain ⟨e1, h, rfl, g1, hh⟩ := z
    rcases e1 with ⟨t1, n1, g⟩ | ⟨ci, fs⟩
    rotate_left
    · exact g1.elim
    obtain ⟨et, en, bg⟩ := g1
    cases (et : t1 = 0)
    cases en
    cases h with
    | cons _ _ => exact hh.elim
    | nil =>
      refine c_X12_copies.mono (fun r h' hp => ?_)
      obtain ⟨rfl, g', hg, rfl⟩ := hp
      exact ⟨_, List.mem_singleton.mpr rfl, rfl, ⟨rfl, rfl, bf⟩, ⟨rfl, rfl, of_seg6 rfl (segD_congr hg (seg6_of (t := 600) rfl rfl bf))⟩, trivial⟩
theorem tp_or {x y : Int32} {N : Prop} (h : (x = y ∧ N) ∨ x = 0) (hy : 0 ≤ y.toInt ∧ y.toInt ≤ 260) : 0 ≤ x.toInt ∧ x.toInt ≤ 260 := by
  rcases h with ⟨rfl, _⟩ | rfl
  · exact hy
  · decide

