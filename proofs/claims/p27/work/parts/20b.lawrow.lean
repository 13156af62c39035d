def hc_85cde758ea : List AC := [.inr (11, [.inr (.inr (some (.inr 0))), .inr (.inr (some (.inr 1))), .inr (.inr (some (.inr 2))), .inr (.inr (some (.inr 3))), .inr (.inr (some (.inr 4))), .inr (.inr (some (.inr 5))), .inr (.inr (some (.inr 6))), .inr (.inr (some (.inr 7))), .inl (0, 48), .inr (.inr (some (.inl 1))), .inl (0, 260), .inl (0, 240), .inl (0, 240), .inl (-2147483648, 2147483647), .inl (-2147483648, 2147483647), .inl (-2147483648, 2147483647), .inl (0, 260), .inl (0, 260), .inl (0, 16), .inr (.inr (some (.inr 200))), .inr (.inr (some (.inl 2))), .inr (.inr (some (.inl 3))), .inr (.inr (some (.inl 4))), .inr (.inr (some (.inl 5))), .inr (.inr (some (.inl 6))), .inr (.inr (some (.inl 7))), .inr (.inr (some (.inl 8))), .inr (.inr (some (.inl 9))), .inr (.inr (some (.inl 10))), .inr (.inr (some (.inl 11))), .inr (.inr (some (.inl 12))), .inr (.inr (some (.inr 8))), .inr (.inr (some (.inr 9))), .inr (.inr (some (.inr 10))), .inr (.inr (some (.inr 11))), .inr (.inr (some (.inr 12))), .inr (.inr (some (.inr 13))), .inl (-2147483648, 2147483647), .inl (-2147483648, 2147483647), .inl (-2147483648, 2147483647), .inl (-2147483648, 2147483647), .inl (-2147483648, 2147483647), .inl (-2147483648, 2147483647), .inl (-2147483648, 2147483647), .inl (-2147483648, 2147483647), .inl (-2147483648, 2147483647), .inl (-2147483648, 2147483647), .inr (.inr (some (.inr 14))), .inr (.inr (some (.inr 15))), .inr (.inr (some (.inr 16))), .inr (.inr (some (.inr 17))), .inr (.inr (some (.inr 18))), .inr (.inr (some (.inr 201)))]), .inl (1, 260, -128, 127), .inl (0, 260, -2147483648, 2147483647), .inl (0, 260, -2147483648, 2147483647), .inl (0, 16, -2147483648, 2147483647), .inl (0, 16, -2147483648, 2147483647), .inl (0, 16, -2147483648, 2147483647), .inl (0, 16, -2147483648, 2147483647), .inl (5, 260, 100, 0), .inl (0, 16, -2147483648, 2147483647), .inl (5, 16, 101, 0), .inl (5, 16, 102, 0), .inl (5, 16, 103, 0)]
/-! ===== the other side's law, as a row ===== -/
def natOf (x : Int32) : Nat := (x.toInt % 4294967296).toNat
theorem natOf_ok (x : Int32) : Int32.ofNat (natOf x) = x := by
  apply Int32.toInt_inj.mp
  rw [Int32.toInt_ofNat']
  have e : ((natOf x : Nat) : Int) = x.toInt % 4294967296 := by
    unfold natOf
    omega
  rw [e]
  have e2 : (Int32.size : Int) = 4294967296 := rfl
  have q : (x.toInt % ((4294967296 : Nat) : Int)).bmod 4294967296 = x.toInt.bmod 4294967296 := by
    simp only [Int.emod_bmod]
  exact Eq.trans q (bm (i32lo x) (i32hi x))
def encA (f : Nat → Int32) (n : Nat) : List (Option Nat) := (List.range n).map (fun i => some (natOf (f i)))
theorem encA_ok {f : Nat → Int32} {n i : Nat} (h : i < n) : decA (encA f n) i = f i := by
  unfold decA encA
  rw [nth_eq, List.getElem?_map, List.getElem?_range h]
  exact natOf_ok _
def tauL (τ : Nat → List (Option Nat)) (cd cf ch ct : Nat → Int32) (m : Int32) (t : Nat) : List (Option Nat) := match t with
  | 100 => encA cd 260
  | 101 => encA cf 16
  | 102 => encA ch 16
  | 103 => encA ct 16
  | 200 => [some (natOf m)]
  | t => τ t
theorem tauL_lo {τ : Nat → List (Option Nat)} {cd cf ch ct : Nat → Int32} {m : Int32} {t : Nat} (h : kT t = true) : tauL τ cd cf ch ct m t = τ t := by
  unfold tauL
  split
  · cases h
  · cases h
  · cases h
  · cases h
  · cases h
  · rfl
theorem tauL_m {τ : Nat → List (Option Nat)} {cd cf ch ct : Nat → Int32} {m : Int32} : decA (tauL τ cd cf ch ct m 200) 0 = m := natOf_ok m
theorem tauL_Φ {τ : Nat → List (Option Nat)} {cd cf ch ct : Nat → Int32} {m : Int32} (h : lawC cd cf ch ct m) : Φ (tauL τ cd cf ch ct m) := by
  unfold Φ
  rw [tauL_m]
  exact lawC_congr h (fun i hi => encA_ok hi) (fun i hi => encA_ok hi) (fun i hi => encA_ok hi) (fun i hi => encA_ok hi)
theorem of_ex {τ : Nat → List (Option Nat)} {n : Nat} {lo hi : Int} {f : Nat → Int32} (b : ∀ i, i < n → f i = decA (τ lo.toNat) i) : ∀ i, i < n → (sel 5 i = true → lo ≤ (f i).toInt ∧ (f i).toInt ≤ hi) ∧ (5 = 5 → f i = decA (τ lo.toNat) i) ∧ (Nat.ble 10 5 = true → g3 τ 5 i (f i)) := fun i hi' => ⟨fun e => (by cases e), fun _ => b i hi', fun e => (by cases e)⟩
theorem nr {k m : Nat} (h1 : k ≤ m) (h2 : m ≤ 1000) : 0 ≤ (nI k).toInt ∧ (nI k).toInt ≤ m := by rw [nI_toInt (by omega)]; omega
def C_X12_law : Con := ([.inr (.inr (some (.inl 0))), .inl (-2147483648, 2147483647)], hc_85cde758ea, [(none, hc_85cde758ea)])
set_option maxRecDepth 100000 in
theorem s_X12_law {l : Launch} : conOkL (MetP l 8 yX12_law cX12_law 4 (some .int) 0 0) C_X12_law.1 C_X12_law.2.1 C_X12_law.2.1 := by
  intro τ hΦ as h ha hh
  have z := all2_cons ha
  clear ha
  obtain ⟨v0, as, rfl, q0, ha⟩ := z
  cases (q0 : v0 = .inr (some (.inl 0)))
  have z := all2_cons ha
  clear ha
  obtain ⟨v0, as, rfl, q0, ha⟩ := z
  obtain ⟨a, rfl, b_a⟩ := q0
  cases as with
  | cons _ _ => exact ha.elim
  | nil =>
    have z := all2_cons hh
    clear hh
    obtain ⟨e0, h, rfl, g0, hh⟩ := z
    rcases e0 with ⟨t0, n0, f0⟩ | ⟨ci, fs⟩
    · exact g0.elim
    obtain ⟨rfl, gf⟩ := g0
    have z := all2_cons gf
    clear gf
    obtain ⟨v0, fs, rfl, q0, gf⟩ := z
    cases gT_r (τ := τ) (t := 0) (v := v0) rfl q0
    have z := all2_cons gf
    clear gf
    obtain ⟨v0, fs, rfl, q0, gf⟩ := z
    cases gT_r (τ := τ) (t := 1) (v := v0) rfl q0
    have z := all2_cons gf
    clear gf
    obtain ⟨v0, fs, rfl, q0, gf⟩ := z
    cases gT_r (τ := τ) (t := 2) (v := v0) rfl q0
    have z := all2_cons gf
    clear gf
    obtain ⟨v0, fs, rfl, q0, gf⟩ := z
    cases gT_r (τ := τ) (t := 3) (v := v0) rfl q0
    have z := all2_cons gf
    clear gf
    obtain ⟨v0, fs, rfl, q0, gf⟩ := z
    cases gT_r (τ := τ) (t := 4) (v := v0) rfl q0
    have z := all2_cons gf
    clear gf
    obtain ⟨v0, fs, rfl, q0, gf⟩ := z
    cases gT_r (τ := τ) (t := 5) (v := v0) rfl q0
    have z := all2_cons gf
    clear gf
    obtain ⟨v0, fs, rfl, q0, gf⟩ := z
    cases gT_r (τ := τ) (t := 6) (v := v0) rfl q0
    have z := all2_cons gf
    clear gf
    obtain ⟨v0, fs, rfl, q0, gf⟩ := z
    cases gT_r (τ := τ) (t := 7) (v := v0) rfl q0
    have z := all2_cons gf
    clear gf
    obtain ⟨v0, fs, rfl, q0, gf⟩ := z
    obtain ⟨M_stampMany, rfl, b_stampMany⟩ := q0
    have z := all2_cons gf
    clear gf
    obtain ⟨v0, fs, rfl, q0, gf⟩ := z
    cases (q0 : v0 = .inr (some (.inl 1)))
    have z := all2_cons gf
    clear gf
    obtain ⟨v0, fs, rfl, q0, gf⟩ := z
    obtain ⟨M_taped, rfl, b_taped⟩ := q0
    have z := all2_cons gf
    clear gf
    obtain ⟨v0, fs, rfl, q0, gf⟩ := z
    obtain ⟨M_place0, rfl, b_place0⟩ := q0
    have z := all2_cons gf
    clear gf
    obtain ⟨v0, fs, rfl, q0, gf⟩ := z
    obtain ⟨M_length0, rfl, b_length0⟩ := q0
    have z := all2_cons gf
    clear gf
    obtain ⟨v0, fs, rfl, q0, gf⟩ := z
    obtain ⟨M_fault, rfl, b_fault⟩ := q0
    have z := all2_cons gf
    clear gf
    obtain ⟨v0, fs, rfl, q0, gf⟩ := z
    obtain ⟨M_number0, rfl, b_number0⟩ := q0
    have z := all2_cons gf
    clear gf
    obtain ⟨v0, fs, rfl, q0, gf⟩ := z
    obtain ⟨M_open, rfl, b_open⟩ := q0
    have z := all2_cons gf
    clear gf
    obtain ⟨v0, fs, rfl, q0, gf⟩ := z
    obtain ⟨M_codeMany, rfl, b_codeMany⟩ := q0
    have z := all2_cons gf
    clear gf
    obtain ⟨v0, fs, rfl, q0, gf⟩ := z
    obtain ⟨M_waiting, rfl, b_waiting⟩ := q0
    have z := all2_cons gf
    clear gf
    obtain ⟨v0, fs, rfl, q0, gf⟩ := z
    obtain ⟨M_saidMany, rfl, b_saidMany⟩ := q0
    have z := all2_cons gf
    clear gf
    obtain ⟨v0, fs, rfl, q0, gf⟩ := z
    cases gT_i (τ := τ) (t := 200) (v := v0) rfl q0
    have z := all2_cons gf
    clear gf
    obtain ⟨v0, fs, rfl, q0, gf⟩ := z
    cases (q0 : v0 = .inr (some (.inl 2)))
    have z := all2_cons gf
    clear gf
    obtain ⟨v0, fs, rfl, q0, gf⟩ := z
    cases (q0 : v0 = .inr (some (.inl 3)))
    have z := all2_cons gf
    clear gf
    obtain ⟨v0, fs, rfl, q0, gf⟩ := z
    cases (q0 : v0 = .inr (some (.inl 4)))
    have z := all2_cons gf
    clear gf
    obtain ⟨v0, fs, rfl, q0, gf⟩ := z
    cases (q0 : v0 = .inr (some (.inl 5)))
    have z := all2_cons gf
    clear gf
    obtain ⟨v0, fs, rfl, q0, gf⟩ := z
    cases (q0 : v0 = .inr (some (.inl 6)))
    have z := all2_cons gf
    clear gf
    obtain ⟨v0, fs, rfl, q0, gf⟩ := z
    cases (q0 : v0 = .inr (some (.inl 7)))
    have z := all2_cons gf
    clear gf
    obtain ⟨v0, fs, rfl, q0, gf⟩ := z
    cases (q0 : v0 = .inr (some (.inl 8)))
    have z := all2_cons gf
    clear gf
    obtain ⟨v0, fs, rfl, q0, gf⟩ := z
    cases (q0 : v0 = .inr (some (.inl 9)))
    have z := all2_cons gf
    clear gf
    obtain ⟨v0, fs, rfl, q0, gf⟩ := z
    cases (q0 : v0 = .inr (some (.inl 10)))
    have z := all2_cons gf
    clear gf
    obtain ⟨v0, fs, rfl, q0, gf⟩ := z
    cases (q0 : v0 = .inr (some (.inl 11)))
    have z := all2_cons gf
    clear gf
    obtain ⟨v0, fs, rfl, q0, gf⟩ := z
    cases (q0 : v0 = .inr (some (.inl 12)))
    have z := all2_cons gf
    clear gf
    obtain ⟨v0, fs, rfl, q0, gf⟩ := z
    cases gT_r (τ := τ) (t := 8) (v := v0) rfl q0
    have z := all2_cons gf
    clear gf
    obtain ⟨v0, fs, rfl, q0, gf⟩ := z
    cases gT_r (τ := τ) (t := 9) (v := v0) rfl q0
    have z := all2_cons gf
    clear gf
    obtain ⟨v0, fs, rfl, q0, gf⟩ := z
    cases gT_r (τ := τ) (t := 10) (v := v0) rfl q0
    have z := all2_cons gf
    clear gf
    obtain ⟨v0, fs, rfl, q0, gf⟩ := z
    cases gT_r (τ := τ) (t := 11) (v := v0) rfl q0
    have z := all2_cons gf
    clear gf
    obtain ⟨v0, fs, rfl, q0, gf⟩ := z
    cases gT_r (τ := τ) (t := 12) (v := v0) rfl q0
    have z := all2_cons gf
    clear gf
    obtain ⟨v0, fs, rfl, q0, gf⟩ := z
    cases gT_r (τ := τ) (t := 13) (v := v0) rfl q0
    have z := all2_cons gf
    clear gf
    obtain ⟨v0, fs, rfl, q0, gf⟩ := z
    obtain ⟨M_newMany, rfl, b_newMany⟩ := q0
    have z := all2_cons gf
    clear gf
    obtain ⟨v0, fs, rfl, q0, gf⟩ := z
    obtain ⟨M_rounds, rfl, b_rounds⟩ := q0
    have z := all2_cons gf
    clear gf
    obtain ⟨v0, fs, rfl, q0, gf⟩ := z
    obtain ⟨M_stampFrom, rfl, b_stampFrom⟩ := q0
    have z := all2_cons gf
    clear gf
    obtain ⟨v0, fs, rfl, q0, gf⟩ := z
    obtain ⟨M_stampTimes, rfl, b_stampTimes⟩ := q0
    have z := all2_cons gf
    clear gf
    obtain ⟨v0, fs, rfl, q0, gf⟩ := z
    obtain ⟨M_lines, rfl, b_lines⟩ := q0
    have z := all2_cons gf
    clear gf
    obtain ⟨v0, fs, rfl, q0, gf⟩ := z
    obtain ⟨M_spot0, rfl, b_spot0⟩ := q0
    have z := all2_cons gf
    clear gf
    obtain ⟨v0, fs, rfl, q0, gf⟩ := z
    obtain ⟨M_pullAcross, rfl, b_pullAcross⟩ := q0
    have z := all2_cons gf
    clear gf
    obtain ⟨v0, fs, rfl, q0, gf⟩ := z
    obtain ⟨M_pullAlong, rfl, b_pullAlong⟩ := q0
    have z := all2_cons gf
    clear gf
    obtain ⟨v0, fs, rfl, q0, gf⟩ := z
    obtain ⟨M_stepsNow, rfl, b_stepsNow⟩ := q0
    have z := all2_cons gf
    clear gf
    obtain ⟨v0, fs, rfl, q0, gf⟩ := z
    obtain ⟨M_fallenNow, rfl, b_fallenNow⟩ := q0
    have z := all2_cons gf
    clear gf
    obtain ⟨v0, fs, rfl, q0, gf⟩ := z
    cases gT_r (τ := τ) (t := 14) (v := v0) rfl q0
    have z := all2_cons gf
    clear gf
    obtain ⟨v0, fs, rfl, q0, gf⟩ := z
    cases gT_r (τ := τ) (t := 15) (v := v0) rfl q0
    have z := all2_cons gf
    clear gf
    obtain ⟨v0, fs, rfl, q0, gf⟩ := z
    cases gT_r (τ := τ) (t := 16) (v := v0) rfl q0
    have z := all2_cons gf
    clear gf
    obtain ⟨v0, fs, rfl, q0, gf⟩ := z
    cases gT_r (τ := τ) (t := 17) (v := v0) rfl q0
    have z := all2_cons gf
    clear gf
    obtain ⟨v0, fs, rfl, q0, gf⟩ := z
    cases gT_r (τ := τ) (t := 18) (v := v0) rfl q0
    have z := all2_cons gf
    clear gf
    obtain ⟨v0, fs, rfl, q0, gf⟩ := z
    obtain ⟨M_isKept, rfl, e_isKept, b_isKept⟩ := gT_x (τ := τ) (t := 201) (v := v0) rfl q0
    cases fs with
    | cons _ _ => exact gf.elim
    | nil =>
      have z := all2_cons hh
      clear hh
      obtain ⟨e1, h, rfl, g1, hh⟩ := z
      rcases e1 with ⟨t1, n1, M_tape⟩ | ⟨ci, fs⟩
      rotate_left
      · exact g1.elim
      obtain ⟨et, en, b_tape⟩ := g1
      cases (et : t1 = 1)
      cases en
      have z := all2_cons hh
      clear hh
      obtain ⟨e1, h, rfl, g1, hh⟩ := z
      rcases e1 with ⟨t1, n1, M_said⟩ | ⟨ci, fs⟩
      rotate_left
      · exact g1.elim
      obtain ⟨et, en, b_said⟩ := g1
      cases (et : t1 = 0)
      cases en
      have z := all2_cons hh
      clear hh
      obtain ⟨e1, h, rfl, g1, hh⟩ := z
      rcases e1 with ⟨t1, n1, M_waitsAt⟩ | ⟨ci, fs⟩
      rotate_left
      · exact g1.elim
      obtain ⟨et, en, b_waitsAt⟩ := g1
      cases (et : t1 = 0)
      cases en
      have z := all2_cons hh
      clear hh
      obtain ⟨e1, h, rfl, g1, hh⟩ := z
      rcases e1 with ⟨t1, n1, M_saidLetter⟩ | ⟨ci, fs⟩
      rotate_left
      · exact g1.elim
      obtain ⟨et, en, b_saidLetter⟩ := g1
      cases (et : t1 = 0)
      cases en
      have z := all2_cons hh
      clear hh
      obtain ⟨e1, h, rfl, g1, hh⟩ := z
      rcases e1 with ⟨t1, n1, M_saidFrom⟩ | ⟨ci, fs⟩
      rotate_left
      · exact g1.elim
      obtain ⟨et, en, b_saidFrom⟩ := g1
      cases (et : t1 = 0)
      cases en
      have z := all2_cons hh
      clear hh
      obtain ⟨e1, h, rfl, g1, hh⟩ := z
      rcases e1 with ⟨t1, n1, M_saidHalf⟩ | ⟨ci, fs⟩
      rotate_left
      · exact g1.elim
      obtain ⟨et, en, b_saidHalf⟩ := g1
      cases (et : t1 = 0)
      cases en
      have z := all2_cons hh
      clear hh
      obtain ⟨e1, h, rfl, g1, hh⟩ := z
      rcases e1 with ⟨t1, n1, M_saidTo⟩ | ⟨ci, fs⟩
      rotate_left
      · exact g1.elim
      obtain ⟨et, en, b_saidTo⟩ := g1
      cases (et : t1 = 0)
      cases en
      have z := all2_cons hh
      clear hh
      obtain ⟨e1, h, rfl, g1, hh⟩ := z
      rcases e1 with ⟨t1, n1, M_codes⟩ | ⟨ci, fs⟩
      rotate_left
      · exact g1.elim
      obtain ⟨et, en, b_codes⟩ := g1
      cases (et : t1 = 0)
      cases en
      have z := all2_cons hh
      clear hh
      obtain ⟨e1, h, rfl, g1, hh⟩ := z
      rcases e1 with ⟨t1, n1, M_clauseOf⟩ | ⟨ci, fs⟩
      rotate_left
      · exact g1.elim
      obtain ⟨et, en, b_clauseOf⟩ := g1
      cases (et : t1 = 0)
      cases en
      have z := all2_cons hh
      clear hh
      obtain ⟨e1, h, rfl, g1, hh⟩ := z
      rcases e1 with ⟨t1, n1, M_codeFrom⟩ | ⟨ci, fs⟩
      rotate_left
      · exact g1.elim
      obtain ⟨et, en, b_codeFrom⟩ := g1
      cases (et : t1 = 0)
      cases en
      have z := all2_cons hh
      clear hh
      obtain ⟨e1, h, rfl, g1, hh⟩ := z
      rcases e1 with ⟨t1, n1, M_codeHalf⟩ | ⟨ci, fs⟩
      rotate_left
      · exact g1.elim
      obtain ⟨et, en, b_codeHalf⟩ := g1
      cases (et : t1 = 0)
      cases en
      have z := all2_cons hh
      clear hh
      obtain ⟨e1, h, rfl, g1, hh⟩ := z
      rcases e1 with ⟨t1, n1, M_codeTo⟩ | ⟨ci, fs⟩
      rotate_left
      · exact g1.elim
      obtain ⟨et, en, b_codeTo⟩ := g1
      cases (et : t1 = 0)
      cases en
      cases h with
      | cons _ _ => exact hh.elim
      | nil =>
      obtain ⟨t0, ht0, rfl⟩ := rng_n (x := M_waiting) (k := 260) b_waiting.1 b_waiting.2
      obtain ⟨tn, htn, rfl⟩ := rng_n (x := M_taped) (k := 260) b_taped.1 b_taped.2
      refine (c_X12_law (Y := False) (fun z => z.elim) ht0 htn).mono (fun r h' hp => ?_)
      rcases hp with ⟨rfl, _, rfl⟩ | ⟨y, sd, wt, sl, sf, sh, st, c', t', p', m, n, v, o, f, rfl, k1, k2, k3, k4, k5, rfl⟩ | ⟨y, sd, wt, sl, sf, sh, st, cd, co, cf, ch, ct, c', t', p', m, n, v, o, f, rfl, k1, k2, k3, k4, k5, k6, rfl⟩
      · exact ⟨τ, hΦ, fun _ _ => rfl, ⟨_, rfl⟩, ⟨⟨rfl, rfl, rfl, rfl, rfl, rfl, rfl, rfl, rfl, ⟨_, rfl, b_stampMany⟩, rfl, ⟨_, rfl, b_taped⟩, ⟨_, rfl, b_place0⟩, ⟨_, rfl, b_length0⟩, ⟨_, rfl, b_fault⟩, ⟨_, rfl, b_number0⟩, ⟨_, rfl, b_open⟩, ⟨_, rfl, b_codeMany⟩, ⟨_, rfl, b_waiting⟩, ⟨_, rfl, b_saidMany⟩, gT_mk (t := 200) rfl rfl ⟨i32lo _, i32hi _⟩, rfl, rfl, rfl, rfl, rfl, rfl, rfl, rfl, rfl, rfl, rfl, rfl, rfl, rfl, rfl, rfl, rfl, ⟨_, rfl, b_newMany⟩, ⟨_, rfl, b_rounds⟩, ⟨_, rfl, b_stampFrom⟩, ⟨_, rfl, b_stampTimes⟩, ⟨_, rfl, b_lines⟩, ⟨_, rfl, b_spot0⟩, ⟨_, rfl, b_pullAcross⟩, ⟨_, rfl, b_pullAlong⟩, ⟨_, rfl, b_stepsNow⟩, ⟨_, rfl, b_fallenNow⟩, rfl, rfl, rfl, rfl, rfl, gT_mk rfl e_isKept b_isKept, trivial⟩, ⟨rfl, rfl, b_tape⟩, ⟨rfl, rfl, b_said⟩, ⟨rfl, rfl, b_waitsAt⟩, ⟨rfl, rfl, b_saidLetter⟩, ⟨rfl, rfl, b_saidFrom⟩, ⟨rfl, rfl, b_saidHalf⟩, ⟨rfl, rfl, b_saidTo⟩, ⟨rfl, rfl, b_codes⟩, ⟨rfl, rfl, b_clauseOf⟩, ⟨rfl, rfl, b_codeFrom⟩, ⟨rfl, rfl, b_codeHalf⟩, ⟨rfl, rfl, b_codeTo⟩, trivial⟩⟩
      · exact ⟨τ, hΦ, fun _ _ => rfl, ⟨y, rfl⟩, ⟨⟨rfl, rfl, rfl, rfl, rfl, rfl, rfl, rfl, rfl, ⟨_, rfl, b_stampMany⟩, rfl, ⟨_, rfl, nr (m := 260) (k := 0) (by omega) (by omega)⟩, ⟨_, rfl, nr (m := 240) k3 (by omega)⟩, ⟨_, rfl, nr (m := 240) k5 (by omega)⟩, topA_ok _, topA_ok _, topA_ok _, ⟨_, rfl, nr (m := 260) k1 (by omega)⟩, ⟨_, rfl, nr (m := 260) k2 (by omega)⟩, ⟨_, rfl, nr (m := 16) k4 (by omega)⟩, gT_mk (t := 200) rfl rfl ⟨i32lo _, i32hi _⟩, rfl, rfl, rfl, rfl, rfl, rfl, rfl, rfl, rfl, rfl, rfl, rfl, rfl, rfl, rfl, rfl, rfl, ⟨_, rfl, b_newMany⟩, ⟨_, rfl, b_rounds⟩, ⟨_, rfl, b_stampFrom⟩, ⟨_, rfl, b_stampTimes⟩, ⟨_, rfl, b_lines⟩, ⟨_, rfl, b_spot0⟩, ⟨_, rfl, b_pullAcross⟩, ⟨_, rfl, b_pullAlong⟩, ⟨_, rfl, b_stepsNow⟩, ⟨_, rfl, b_fallenNow⟩, rfl, rfl, rfl, rfl, rfl, gT_mk rfl e_isKept b_isKept, trivial⟩, ⟨rfl, rfl, b_tape⟩, ⟨rfl, rfl, of_rg rg_top⟩, ⟨rfl, rfl, of_rg rg_top⟩, ⟨rfl, rfl, of_rg rg_top⟩, ⟨rfl, rfl, of_rg rg_top⟩, ⟨rfl, rfl, of_rg rg_top⟩, ⟨rfl, rfl, of_rg rg_top⟩, ⟨rfl, rfl, b_codes⟩, ⟨rfl, rfl, b_clauseOf⟩, ⟨rfl, rfl, b_codeFrom⟩, ⟨rfl, rfl, b_codeHalf⟩, ⟨rfl, rfl, b_codeTo⟩, trivial⟩⟩
      · refine ⟨tauL τ cd cf ch ct (nI m), tauL_Φ k6, fun t ht => tauL_lo ht, ⟨y, rfl⟩, ?_⟩
        have em : (nI m : Int32) = decA (tauL τ cd cf ch ct (nI m) 200) 0 := tauL_m.symm
        exact ⟨⟨rfl, rfl, rfl, rfl, rfl, rfl, rfl, rfl, rfl, ⟨_, rfl, b_stampMany⟩, rfl, ⟨_, rfl, nr (m := 260) (k := 0) (by omega) (by omega)⟩, ⟨_, rfl, nr (m := 240) k3 (by omega)⟩, ⟨_, rfl, nr (m := 240) k5 (by omega)⟩, topA_ok _, topA_ok _, topA_ok _, ⟨_, rfl, nr (m := 260) k1 (by omega)⟩, ⟨_, rfl, nr (m := 260) k2 (by omega)⟩, ⟨_, rfl, nr (m := 16) k4 (by omega)⟩, gT_mk (t := 200) rfl em ⟨i32lo _, i32hi _⟩, rfl, rfl, rfl, rfl, rfl, rfl, rfl, rfl, rfl, rfl, rfl, rfl, rfl, rfl, rfl, rfl, rfl, ⟨_, rfl, b_newMany⟩, ⟨_, rfl, b_rounds⟩, ⟨_, rfl, b_stampFrom⟩, ⟨_, rfl, b_stampTimes⟩, ⟨_, rfl, b_lines⟩, ⟨_, rfl, b_spot0⟩, ⟨_, rfl, b_pullAcross⟩, ⟨_, rfl, b_pullAlong⟩, ⟨_, rfl, b_stepsNow⟩, ⟨_, rfl, b_fallenNow⟩, rfl, rfl, rfl, rfl, rfl, gT_mk rfl e_isKept b_isKept, trivial⟩, ⟨rfl, rfl, b_tape⟩, ⟨rfl, rfl, of_rg rg_top⟩, ⟨rfl, rfl, of_rg rg_top⟩, ⟨rfl, rfl, of_rg rg_top⟩, ⟨rfl, rfl, of_rg rg_top⟩, ⟨rfl, rfl, of_rg rg_top⟩, ⟨rfl, rfl, of_rg rg_top⟩, ⟨rfl, rfl, of_ex (fun i hi => (encA_ok hi).symm)⟩, ⟨rfl, rfl, of_rg rg_top⟩, ⟨rfl, rfl, of_ex (fun i hi => (encA_ok hi).symm)⟩, ⟨rfl, rfl, of_ex (fun i hi => (encA_ok hi).symm)⟩, ⟨rfl, rfl, of_ex (fun i hi => (encA_ok hi).symm)⟩, trivial⟩

