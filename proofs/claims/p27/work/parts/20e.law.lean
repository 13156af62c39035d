/-! ===== the law's loop ===== -/
def T0 : Nat → List (Option Nat) := τ0
def nilb (l : List (Option Nat)) : Bool := match l with
  | [] => true
  | _ => false
theorem nilb_ok {l : List (Option Nat)} (h : nilb l = true) : l = [] := by
  cases l with
  | nil => rfl
  | cons _ _ => cases h
def ckV (a : AV) (v : PV) : Bool := match a, v with
  | .inl (lo, hi), .inl x => ile lo x.toInt && ile x.toInt hi
  | .inr (.inr none), .inr none => true
  | .inr (.inr (some (.inl a))), .inr (some (.inl b)) => Nat.beq b a
  | .inr (.inr (some (.inr t))), .inl x => (Nat.ble 200 t && ieq x.toInt (decA (T0 t) 0).toInt) && (ile (rT t).1 x.toInt && ile x.toInt (rT t).2)
  | .inr (.inr (some (.inr t))), .inr (some (.inr [])) => !Nat.ble 200 t && nilb (T0 t)
  | _, _ => false
def ckI (t : Nat) (lo hi x : Int) (i : Nat) : Bool := ((!sel t i || (ile lo x && ile x hi)) && (!Nat.beq t 5 || ieq x (decA (T0 lo.toNat) i).toInt)) && (!Nat.ble 10 t || (match Nat.ble 1000 t with | true => ieq x (decA (T0 (t / 4)) i).toInt | false => match Nat.ble 700 t with | true => true | false => match Nat.ble 600 t with | true => !Nat.beq i 128 || ieq x (decA (T0 (t - 392)) 0).toInt | false => ile 0 x && ile x 383))
def ckC (a : AC) (v : PE) : Bool := match a, v with
  | .inl (t, n, lo, hi), .inl (t', n', f) => (Nat.beq t' (kk t) && Nat.beq n' n) && (List.range n).all (fun i => ckI t lo hi (f i).toInt i)
  | .inr (ci, fs), .inr (ci', fs') => Nat.beq ci' ci && all2b ckV fs fs'
  | _, _ => false
theorem all2b_ok {α β : Type} {R : α → β → Prop} {q : α → β → Bool} (hi : ∀ a b, q a b = true → R a b) : ∀ {x : List α} {y : List β}, all2b q x y = true → all2 R x y
  | [], [], _ => trivial
  | [], _ :: _, h => by cases h
  | _ :: _, [], h => by cases h
  | a :: x, b :: y, h => by
    unfold all2b at h
    rw [Bool.and_eq_true] at h
    exact ⟨hi a b h.1, all2b_ok hi h.2⟩
theorem ckV_ok (a : AV) (v : PV) (h : ckV a v = true) : gV ρ0 T0 a v := by
  rcases a with ⟨l, u⟩ | ⟨k, d⟩ | _ | a | t <;> rcases v with x | _ | b | t'
  · unfold ckV ile at h
    simp only [Bool.and_eq_true, decide_eq_true_eq] at h
    exact ⟨x, rfl, h.1, h.2⟩
  · cases h
  · cases h
  · cases h
  · cases h
  · cases h
  · cases h
  · cases h
  · cases h
  · rfl
  · cases h
  · cases h
  · cases h
  · cases h
  · cases Nat.eq_of_beq_eq_true h
    rfl
  · cases h
  · unfold ckV ieq ile at h
    simp only [Bool.and_eq_true, decide_eq_true_eq] at h
    exact gT_mk (τ := T0) (t := t) h.1.1 (i32eq.mpr h.1.2) ⟨by omega, by omega⟩
  · cases h
  · cases h
  · cases t' with
    | nil =>
      have h : (!Nat.ble 200 t && nilb (T0 t)) = true := h
      rw [Bool.and_eq_true, Bool.not_eq_true'] at h
      show gT T0 t (.inr (some (.inr [])))
      unfold gT
      rw [h.1, nilb_ok h.2]
    | cons _ _ => cases h
theorem ckC_ok (a : AC) (v : PE) (h : ckC a v = true) : gC ρ0 T0 a v := by
  rcases a with ⟨t, n, lo, hi⟩ | ⟨ci, fs⟩ <;> rcases v with ⟨t', n', f⟩ | ⟨ci', fs'⟩
  · unfold ckC at h
    simp only [Bool.and_eq_true, List.all_eq_true, List.mem_range] at h
    refine ⟨Nat.eq_of_beq_eq_true h.1.1, Nat.eq_of_beq_eq_true h.1.2, fun i hi => ?_⟩
    have q := h.2 i hi
    unfold ckI ile ieq at q
    simp only [Bool.and_eq_true, Bool.or_eq_true, Bool.not_eq_true', decide_eq_true_eq] at q
    obtain ⟨⟨q1, q2⟩, q3⟩ := q
    refine ⟨fun z => ?_, fun z => ?_, fun z => ?_⟩
    · rcases q1 with q1 | q1
      · rw [z] at q1
        cases q1
      · exact q1
    · subst z
      rcases q2 with q2 | q2
      · cases q2
      · exact i32eq.mpr q2
    · rcases q3 with q3 | q3
      · rw [z] at q3
        cases q3
      · cases hk : Nat.ble 1000 t
        · cases h7 : Nat.ble 700 t
          · rw [hk, h7] at q3
            have q3 : (match Nat.ble 600 t with | true => !Nat.beq i 128 || decide ((f i).toInt = (decA (T0 (t - 392)) 0).toInt) | false => decide (0 ≤ (f i).toInt) && decide ((f i).toInt ≤ 383)) = true := q3
            cases h6 : Nat.ble 600 t
            · rw [h6] at q3
              have q3 : (decide (0 ≤ (f i).toInt) && decide ((f i).toInt ≤ 383)) = true := q3
              rw [Bool.and_eq_true] at q3
              exact g3_q h7 h6 (fun _ _ => ⟨of_decide_eq_true q3.1, of_decide_eq_true q3.2⟩)
            · rw [h6] at q3
              have q3 : (!Nat.beq i 128 || decide ((f i).toInt = (decA (T0 (t - 392)) 0).toInt)) = true := q3
              refine g3_dm h7 h6 (fun ei => ?_)
              subst ei
              rw [Bool.or_eq_true] at q3
              rcases q3 with q3 | q3
              · cases q3
              · exact i32eq.mpr (of_decide_eq_true q3)
          · exact g3_m hk h7
        · rw [hk] at q3
          have q3 : decide ((f i).toInt = (decA (T0 (t / 4)) i).toInt) = true := q3
          exact g3_mk hk (i32eq.mpr (of_decide_eq_true q3))
  · cases h
  · cases h
  · unfold ckC at h
    rw [Bool.and_eq_true] at h
    exact ⟨Nat.eq_of_beq_eq_true h.1, all2b_ok ckV_ok h.2⟩
def FR : PH := [.inr (10, [.inr (some (.inl 1)), .inr (some (.inl 3)), .inr (some (.inl 9)), .inr (some (.inl 14)), .inr (some (.inl 19)), .inr (some (.inl 24)), .inr (some (.inl 27)), .inr (some (.inl 29)), .inr (some (.inl 32)), .inr (some (.inl 35)), .inr (some (.inl 54)), .inr (some (.inl 39)), .inr (some (.inl 40)), .inr (some (.inl 47)), .inl 0]), .inr (9, [.inr (some (.inl 2)), .inl 0]), .inl (0, 260, (fun _ => 0)), .inr (6, [.inr (some (.inl 4)), .inr (some (.inl 5)), .inr (some (.inl 6)), .inr (some (.inl 7)), .inr (some (.inl 8)), .inl 0, .inl 0, .inl 0]), .inl (0, 8, (fun _ => 0)), .inl (0, 8, (fun _ => 0)), .inl (2, 384, (fun _ => 0)), .inl (0, 48, (fun _ => 0)), .inl (0, 48, (fun _ => 0)), .inr (4, [.inr (some (.inl 10)), .inr (some (.inl 11)), .inr (some (.inl 12)), .inr (some (.inl 13)), .inl 0, .inl 0, .inl 0, .inl 1]), .inl (0, 8, (fun _ => 0)), .inl (0, 8, (fun _ => 0)), .inl (0, 48, (fillK (fun _ => 0) (-2) 48)), .inl (0, 48, (fun _ => 0)), .inr (4, [.inr (some (.inl 15)), .inr (some (.inl 16)), .inr (some (.inl 17)), .inr (some (.inl 18)), .inl 0, .inl 0, .inl 0, .inl 1]), .inl (0, 8, (fun _ => 0)), .inl (0, 8, (fun _ => 0)), .inl (0, 48, (fillK (fun _ => 0) (-2) 48)), .inl (0, 48, (fun _ => 0)), .inr (4, [.inr (some (.inl 20)), .inr (some (.inl 21)), .inr (some (.inl 22)), .inr (some (.inl 23)), .inl 0, .inl 0, .inl 0, .inl 1]), .inl (0, 8, (fun _ => 0)), .inl (0, 8, (fun _ => 0)), .inl (0, 48, (fillK (fun _ => 0) (-2) 48)), .inl (0, 48, (fun _ => 0)), .inr (0, [.inr (some (.inl 3)), .inr (some (.inl 25)), .inr (some (.inl 26)), .inl 0, .inl 0, .inl 0]), .inl (0, 9, (fun _ => 0)), .inl (0, 48, (fun _ => 0)), .inr (1, [.inr (some (.inl 3)), .inr (some (.inl 28)), .inl 0, .inl 0, .inl 0]), .inl (0, 9, (fun _ => 0)), .inr (7, [.inr (some (.inl 1)), .inr (some (.inl 30)), .inr (some (.inl 31)), .inl 0, .inl 0]), .inl (0, 601, (fun _ => 0)), .inl (0, 6, (fun _ => 0)), .inr (8, [.inr (some (.inl 2)), .inl 0, .inl 0, .inl ((-1)), .inl 0, .inr (some (.inl 33)), .inr (some (.inl 34)), .inl 0]), .inl (0, 48, (fun _ => 0)), .inl (0, 48, (fun _ => 0)), .inr (5, [.inr (some (.inl 2)), .inl 0, .inl 0, .inl ((-1)), .inl 0, .inr (some (.inl 36)), .inr (some (.inl 37)), .inr (some (.inl 38)), .inl 0, .inl 0, .inl 0]), .inl (0, 20, (fun _ => 0)), .inl (0, 20, (fun _ => 0)), .inl (0, 20, (fun _ => 0)), .inl (0, 384, (fun _ => 0)), .inr (2, [.inr (some (.inl 41)), .inr (some (.inl 42)), .inr (some (.inl 43)), .inr (some (.inl 44)), .inr (some (.inl 45)), .inr (some (.inl 46)), .inl 0, .inl 0, .inl 0, .inl 0]), .inl (0, 16, (fun _ => 0)), .inl (0, 16, (fun _ => 0)), .inl (0, 16, (fun _ => 0)), .inl (0, 280, (fun _ => 0)), .inl (0, 280, (fun _ => 0)), .inl (0, 24, (fun _ => 0)), .inr (2, [.inr (some (.inl 48)), .inr (some (.inl 49)), .inr (some (.inl 50)), .inr (some (.inl 51)), .inr (some (.inl 52)), .inr (some (.inl 53)), .inl 0, .inl 0, .inl 0, .inl 0]), .inl (0, 16, (fun _ => 0)), .inl (0, 16, (fun _ => 0)), .inl (0, 16, (fun _ => 0)), .inl (0, 280, (fun _ => 0)), .inl (0, 280, (fun _ => 0)), .inl (0, 24, (fun _ => 0)), .inr (3, [.inr (some (.inl 2)), .inl 0, .inl 0, .inl ((-1)), .inl 0, .inr (some (.inl 47))]), .inr (11, [.inr (some (.inl 56)), .inr (some (.inl 57)), .inr (some (.inl 58)), .inr (some (.inl 59)), .inr (some (.inl 60)), .inr (some (.inl 61)), .inr (some (.inl 62)), .inr (some (.inl 63)), .inl 0, .inr (some (.inl 64)), .inl 0, .inl 0, .inl 0, .inl 0, .inl 0, .inl 0, .inl 0, .inl 0, .inl 0, .inl 0, .inr (some (.inl 65)), .inr (some (.inl 66)), .inr (some (.inl 67)), .inr (some (.inl 68)), .inr (some (.inl 69)), .inr (some (.inl 70)), .inr (some (.inl 71)), .inr (some (.inl 72)), .inr (some (.inl 73)), .inr (some (.inl 74)), .inr (some (.inl 75)), .inr (some (.inl 76)), .inr (some (.inl 77)), .inr (some (.inl 78)), .inr (some (.inl 79)), .inr (some (.inl 80)), .inr (some (.inl 81)), .inl 0, .inl 0, .inl 0, .inl 0, .inl 0, .inl 0, .inl 0, .inl 0, .inl 0, .inl 0, .inr (some (.inl 82)), .inr (some (.inl 83)), .inr (some (.inl 84)), .inr (some (.inl 85)), .inr (some (.inl 86)), .inl 0]), .inl (0, 130, mnow), .inl (0, 130, (fun _ => 0)), .inl (0, 130, (fun _ => 0)), .inl (0, 8, (fillK (fun _ => 0) (-1) 8)), .inl (0, 48, (fun _ => 0)), .inl (0, 48, (fun _ => 0)), .inl (2, 384, (fun _ => 0)), .inl (2, 384, (fun _ => 0)), .inl (1, 260, (fun _ => 0)), .inl (0, 260, (fun _ => 0)), .inl (0, 260, (fun _ => 0)), .inl (0, 16, (fun _ => 0)), .inl (0, 16, (fun _ => 0)), .inl (0, 16, (fun _ => 0)), .inl (0, 16, (fun _ => 0)), .inl (0, 260, (fun _ => 0)), .inl (0, 16, (fun _ => 0)), .inl (0, 16, (fun _ => 0)), .inl (0, 16, (fun _ => 0)), .inl (0, 16, (fun _ => 0)), .inl (0, 260, (fun _ => 0)), .inl (0, 9, (fun _ => 0)), .inl (0, 48, (fun _ => 0)), .inl (0, 2, (fun _ => 0)), .inl (0, 2, (fun _ => 0)), .inl (0, 2, (fun _ => 0)), .inl (0, 48, (fun _ => 0)), .inl (2, 384, (fun _ => 0)), .inl (0, 9, (fun _ => 0)), .inl (0, 601, (fun _ => 0)), .inl (0, 6, (fun _ => 0))]
set_option maxRecDepth 100000 in
theorem FR_ok : all2 (gC ρ0 T0) HL_S1 FR := all2b_ok ckC_ok (by decide +kernel)
def JL (Ls μ : Nat) : Blk := fun L st h => ∃ (τ : Nat → List (Option Nat)) (j : Nat), Φ τ ∧ st = [] ∧ μ + 6 * j = Ls ∧ L = [some (.inr (some (.inr []))), some (.inr (some (.inl 0))), some (.inr (some (.inl 55))), some (.inl (nI (6 * j)))] ∧ HH τ h
def JL1 (Ls μ : Nat) : Blk := fun L st h => ∃ (τ : Nat → List (Option Nat)) (j : Nat), Φ τ ∧ st = [] ∧ μ + 6 * j = Ls ∧ L = [some (.inr (some (.inr []))), some (.inr (some (.inl 0))), some (.inr (some (.inl 55))), some (.inl (nI (6 * j)))] ∧ RR τ ∧ (all2 (gC ρ0 τ) HL_S1 h ∨ all2 (gC ρ0 τ) HL_R1 h)
def JL2 (Ls μ : Nat) : Blk := fun L st h => ∃ (τ : Nat → List (Option Nat)) (j : Nat), Φ τ ∧ st = [] ∧ μ + 6 * j = Ls ∧ L = [some (.inr (some (.inr []))), some (.inr (some (.inl 0))), some (.inr (some (.inl 55))), some (.inl (nI (6 * j)))] ∧ RR τ ∧ (all2 (gC ρ0 τ) HL_S2 h ∨ all2 (gC ρ0 τ) HL_R2 h)
theorem JL_or {Ls μ : Nat} {L : PL} {st : List PV} {h : PH} (H : JL Ls μ L st h) : JL1 Ls μ L st h ∨ JL2 Ls μ L st h := by
  obtain ⟨τ, j, h1, h2, h3, h4, hz, h5⟩ := H
  rcases h5 with h5 | h5
  · exact Or.inl ⟨τ, j, h1, h2, h3, h4, hz, h5⟩
  · exact Or.inr ⟨τ, j, h1, h2, h3, h4, hz, h5⟩
theorem lp_more {Ls j : Nat} (hL : Ls ≤ 3072) (hj : 6 * j ≤ Ls) (h : ¬ f_sub (nI Ls) 6 < nI (6 * j)) : 6 * j + 6 ≤ Ls := by
  rcases Nat.lt_or_ge Ls (6 * j + 6) with q | q
  · exfalso
    apply h
    rw [Int32.lt_iff_toInt_lt]
    have e : (f_sub (nI Ls) 6).toInt = (Ls : Int) - 6 := by
      unfold f_sub
      rw [Int32.toInt_sub, nI_toInt (by omega)]
      show ((Ls : Int) - 6).bmod (2 ^ 32) = _
      exact bm (by omega) (by omega)
    rw [e, nI_toInt (by omega)]
    omega
  · exact q
theorem lp_next {Ls μ j : Nat} (hj : 6 * j + 6 ≤ Ls) (hμ : μ + 6 * j = Ls) (τ2 : Nat → List (Option Nat)) (h2 : PH) (p : Φ τ2) (q : HH τ2 h2) : ltb (JL Ls) μ [some (.inr (some (.inr []))), some (.inr (some (.inl 0))), some (.inr (some (.inl 55))), some (.inl (f_add (nI (6 * j)) 6))] [] h2 :=
  ⟨Ls - 6 * (j + 1), by omega, τ2, j + 1, p, rfl, by omega, by rw [show f_add (nI (6 * j)) 6 = nI (6 * (j + 1)) from nI_add _ _], q⟩

set_option maxRecDepth 100000 in
theorem g_law_head1 {l : Launch} {Ls : Nat} {xs : Nat → Int32} (hL : Ls ≤ 3072) : ∀ (μ : Nat) (L : PL) (st : List PV) (h : PH), JL1 Ls μ L st h → b_L_law_18 l Ls xs (ltb (JL Ls) μ) L st h := by
  rintro μ L st h ⟨τ, j, hΦ, rfl, hμ, rfl, hz, hh⟩
  refine And.intro (fun _ => rfl) (fun (h1 : ¬ f_sub (nI Ls) 6 < nI (6 * j)) => ?_)
  have hj : 6 * j + 6 ≤ Ls := lp_more (by omega) (by omega) h1
  have hL' : Ls ≤ 3072 := by omega
  have K := lp_next hj hμ
  refine And.intro (vp_in_nI (by omega) (by omega)) ?_
  rcases hh with hh | hh
  · refine And.intro (fun _ => g_law_mint_S1 hΦ hz hj hL' hh K) (fun _ => ?_)
    refine And.intro (fun _ => g_law_feed_S1 hΦ hz hj hL' hh K) (fun _ => ?_)
    refine And.intro (fun _ => g_law_law_S1 hΦ hz hj hL' hh K) (fun _ => ?_)
    refine And.intro (fun _ => g_law_sheet_S1 hΦ hz hj hL' hh K) (fun _ => ?_)
    refine And.intro (fun _ => g_law_post_S1 hΦ hz hj hL' hh K) (fun _ => ?_)
    refine And.intro (fun _ => g_law_days_S1 hΦ hz hj hL' hh K) (fun _ => ?_)
    refine And.intro (fun _ => g_law_tried_S1 hΦ hz hj hL' hh K) (fun _ => ?_)
    refine And.intro (fun _ => g_law_letterIs_S1 hΦ hz hj hL' hh K) (fun _ => ?_)
    refine And.intro (fun _ => g_law_stampIs_S1 hΦ hz hj hL' hh K) (fun _ => ?_)
    refine And.intro (fun _ => g_law_comes_S1 hΦ hz hj hL' hh K) (fun _ => ?_)
    refine And.intro (fun _ => g_law_atRest_S1 hΦ hz hj hL' hh K) (fun _ => ?_)
    refine And.intro (fun _ => g_law_meet_S1 hΦ hz hj hL' hh K) (fun _ => ?_)
    refine And.intro (fun _ => g_law_again_S1 hΦ hz hj hL' hh K) (fun _ => ?_)
    refine And.intro (fun _ => g_law_home_S1 hΦ hz hj hL' hh K) (fun _ => ?_)
    refine And.intro (fun _ => g_law_lying_S1 hΦ hz hj hL' hh K) (fun _ => ?_)
    refine And.intro (fun _ => g_law_stamped_S1 hΦ hz hj hL' hh K) (fun _ => ?_)
    refine And.intro (fun _ => g_law_hang_S1 hΦ hz hj hL' hh K) (fun _ => ?_)
    refine And.intro (fun _ => g_law_falseOnes_S1 hΦ hz hj hL' hh K) (fun _ => ?_)
    refine And.intro (fun _ => g_law_printed_S1 hΦ hz hj hL' hh K) (fun _ => ?_)
    refine And.intro (fun _ => g_law_ship_S1 hΦ hz hj hL' hh K) (fun _ => ?_)
    refine And.intro (fun _ => g_law_mule_S1 hΦ hz hj hL' hh K) (fun _ => ?_)
    refine And.intro (fun _ => g_law_marks_S1 hΦ hz hj hL' hh K) (fun _ => ?_)
    refine And.intro (fun _ => g_law_franked_S1 hΦ hz hj hL' hh K) (fun _ => ?_)
    refine And.intro (fun _ => g_law_exchange_S1 hΦ hz hj hL' hh K) (fun _ => ?_)
    refine And.intro (fun _ => g_law_seed_S1 hΦ hz hj hL' hh K) (fun _ => ?_)
    refine And.intro (fun _ => g_law_keep_S1 hΦ hz hj hL' hh K) (fun _ => ?_)
    refine And.intro (fun _ => g_law_undo_S1 hΦ hz hj hL' hh K) (fun _ => ?_)
    refine And.intro (fun _ => g_law_check_S1 hΦ hz hj hL' hh K) (fun _ => ?_)
    refine And.intro (fun _ => g_law_count_S1 hΦ hz hj hL' hh K) (fun _ => ?_)
    exact K τ h hΦ ⟨hz, Or.inl (Or.inl hh)⟩
  · refine And.intro (fun _ => g_law_mint_R1 hΦ hz hj hL' hh K) (fun _ => ?_)
    refine And.intro (fun _ => g_law_feed_R1 hΦ hz hj hL' hh K) (fun _ => ?_)
    refine And.intro (fun _ => g_law_law_R1 hΦ hz hj hL' hh K) (fun _ => ?_)
    refine And.intro (fun _ => g_law_sheet_R1 hΦ hz hj hL' hh K) (fun _ => ?_)
    refine And.intro (fun _ => g_law_post_R1 hΦ hz hj hL' hh K) (fun _ => ?_)
    refine And.intro (fun _ => g_law_days_R1 hΦ hz hj hL' hh K) (fun _ => ?_)
    refine And.intro (fun _ => g_law_tried_R1 hΦ hz hj hL' hh K) (fun _ => ?_)
    refine And.intro (fun _ => g_law_letterIs_R1 hΦ hz hj hL' hh K) (fun _ => ?_)
    refine And.intro (fun _ => g_law_stampIs_R1 hΦ hz hj hL' hh K) (fun _ => ?_)
    refine And.intro (fun _ => g_law_comes_R1 hΦ hz hj hL' hh K) (fun _ => ?_)
    refine And.intro (fun _ => g_law_atRest_R1 hΦ hz hj hL' hh K) (fun _ => ?_)
    refine And.intro (fun _ => g_law_meet_R1 hΦ hz hj hL' hh K) (fun _ => ?_)
    refine And.intro (fun _ => g_law_again_R1 hΦ hz hj hL' hh K) (fun _ => ?_)
    refine And.intro (fun _ => g_law_home_R1 hΦ hz hj hL' hh K) (fun _ => ?_)
    refine And.intro (fun _ => g_law_lying_R1 hΦ hz hj hL' hh K) (fun _ => ?_)
    refine And.intro (fun _ => g_law_stamped_R1 hΦ hz hj hL' hh K) (fun _ => ?_)
    refine And.intro (fun _ => g_law_hang_R1 hΦ hz hj hL' hh K) (fun _ => ?_)
    refine And.intro (fun _ => g_law_falseOnes_R1 hΦ hz hj hL' hh K) (fun _ => ?_)
    refine And.intro (fun _ => g_law_printed_R1 hΦ hz hj hL' hh K) (fun _ => ?_)
    refine And.intro (fun _ => g_law_ship_R1 hΦ hz hj hL' hh K) (fun _ => ?_)
    refine And.intro (fun _ => g_law_mule_R1 hΦ hz hj hL' hh K) (fun _ => ?_)
    refine And.intro (fun _ => g_law_marks_R1 hΦ hz hj hL' hh K) (fun _ => ?_)
    refine And.intro (fun _ => g_law_franked_R1 hΦ hz hj hL' hh K) (fun _ => ?_)
    refine And.intro (fun _ => g_law_exchange_R1 hΦ hz hj hL' hh K) (fun _ => ?_)
    refine And.intro (fun _ => g_law_seed_R1 hΦ hz hj hL' hh K) (fun _ => ?_)
    refine And.intro (fun _ => g_law_keep_R1 hΦ hz hj hL' hh K) (fun _ => ?_)
    refine And.intro (fun _ => g_law_undo_R1 hΦ hz hj hL' hh K) (fun _ => ?_)
    refine And.intro (fun _ => g_law_check_R1 hΦ hz hj hL' hh K) (fun _ => ?_)
    refine And.intro (fun _ => g_law_count_R1 hΦ hz hj hL' hh K) (fun _ => ?_)
    exact K τ h hΦ ⟨hz, Or.inl (Or.inr hh)⟩

set_option maxRecDepth 100000 in
theorem g_law_head2 {l : Launch} {Ls : Nat} {xs : Nat → Int32} (hL : Ls ≤ 3072) : ∀ (μ : Nat) (L : PL) (st : List PV) (h : PH), JL2 Ls μ L st h → b2_L_law_18 l Ls xs (ltb (JL Ls) μ) L st h := by
  rintro μ L st h ⟨τ, j, hΦ, rfl, hμ, rfl, hz, hh⟩
  refine And.intro (fun _ => rfl) (fun (h1 : ¬ f_sub (nI Ls) 6 < nI (6 * j)) => ?_)
  have hj : 6 * j + 6 ≤ Ls := lp_more (by omega) (by omega) h1
  have hL' : Ls ≤ 3072 := by omega
  have K := lp_next hj hμ
  refine And.intro (vp_in_nI (by omega) (by omega)) ?_
  rcases hh with hh | hh
  · refine And.intro (fun _ => g_law_mint_S2 hΦ hz hj hL' hh K) (fun _ => ?_)
    refine And.intro (fun _ => g_law_feed_S2 hΦ hz hj hL' hh K) (fun _ => ?_)
    refine And.intro (fun _ => g_law_law_S2 hΦ hz hj hL' hh K) (fun _ => ?_)
    refine And.intro (fun _ => g_law_sheet_S2 hΦ hz hj hL' hh K) (fun _ => ?_)
    refine And.intro (fun _ => g_law_post_S2 hΦ hz hj hL' hh K) (fun _ => ?_)
    refine And.intro (fun _ => g_law_days_S2 hΦ hz hj hL' hh K) (fun _ => ?_)
    refine And.intro (fun _ => g_law_tried_S2 hΦ hz hj hL' hh K) (fun _ => ?_)
    refine And.intro (fun _ => g_law_letterIs_S2 hΦ hz hj hL' hh K) (fun _ => ?_)
    refine And.intro (fun _ => g_law_stampIs_S2 hΦ hz hj hL' hh K) (fun _ => ?_)
    refine And.intro (fun _ => g_law_comes_S2 hΦ hz hj hL' hh K) (fun _ => ?_)
    refine And.intro (fun _ => g_law_atRest_S2 hΦ hz hj hL' hh K) (fun _ => ?_)
    refine And.intro (fun _ => g_law_meet_S2 hΦ hz hj hL' hh K) (fun _ => ?_)
    refine And.intro (fun _ => g_law_again_S2 hΦ hz hj hL' hh K) (fun _ => ?_)
    refine And.intro (fun _ => g_law_home_S2 hΦ hz hj hL' hh K) (fun _ => ?_)
    refine And.intro (fun _ => g_law_lying_S2 hΦ hz hj hL' hh K) (fun _ => ?_)
    refine And.intro (fun _ => g_law_stamped_S2 hΦ hz hj hL' hh K) (fun _ => ?_)
    refine And.intro (fun _ => g_law_hang_S2 hΦ hz hj hL' hh K) (fun _ => ?_)
    refine And.intro (fun _ => g_law_falseOnes_S2 hΦ hz hj hL' hh K) (fun _ => ?_)
    refine And.intro (fun _ => g_law_printed_S2 hΦ hz hj hL' hh K) (fun _ => ?_)
    refine And.intro (fun _ => g_law_ship_S2 hΦ hz hj hL' hh K) (fun _ => ?_)
    refine And.intro (fun _ => g_law_mule_S2 hΦ hz hj hL' hh K) (fun _ => ?_)
    refine And.intro (fun _ => g_law_marks_S2 hΦ hz hj hL' hh K) (fun _ => ?_)
    refine And.intro (fun _ => g_law_franked_S2 hΦ hz hj hL' hh K) (fun _ => ?_)
    refine And.intro (fun _ => g_law_exchange_S2 hΦ hz hj hL' hh K) (fun _ => ?_)
    refine And.intro (fun _ => g_law_seed_S2 hΦ hz hj hL' hh K) (fun _ => ?_)
    refine And.intro (fun _ => g_law_keep_S2 hΦ hz hj hL' hh K) (fun _ => ?_)
    refine And.intro (fun _ => g_law_undo_S2 hΦ hz hj hL' hh K) (fun _ => ?_)
    refine And.intro (fun _ => g_law_check_S2 hΦ hz hj hL' hh K) (fun _ => ?_)
    refine And.intro (fun _ => g_law_count_S2 hΦ hz hj hL' hh K) (fun _ => ?_)
    exact K τ h hΦ ⟨hz, Or.inr (Or.inl hh)⟩
  · refine And.intro (fun _ => g_law_mint_R2 hΦ hz hj hL' hh K) (fun _ => ?_)
    refine And.intro (fun _ => g_law_feed_R2 hΦ hz hj hL' hh K) (fun _ => ?_)
    refine And.intro (fun _ => g_law_law_R2 hΦ hz hj hL' hh K) (fun _ => ?_)
    refine And.intro (fun _ => g_law_sheet_R2 hΦ hz hj hL' hh K) (fun _ => ?_)
    refine And.intro (fun _ => g_law_post_R2 hΦ hz hj hL' hh K) (fun _ => ?_)
    refine And.intro (fun _ => g_law_days_R2 hΦ hz hj hL' hh K) (fun _ => ?_)
    refine And.intro (fun _ => g_law_tried_R2 hΦ hz hj hL' hh K) (fun _ => ?_)
    refine And.intro (fun _ => g_law_letterIs_R2 hΦ hz hj hL' hh K) (fun _ => ?_)
    refine And.intro (fun _ => g_law_stampIs_R2 hΦ hz hj hL' hh K) (fun _ => ?_)
    refine And.intro (fun _ => g_law_comes_R2 hΦ hz hj hL' hh K) (fun _ => ?_)
    refine And.intro (fun _ => g_law_atRest_R2 hΦ hz hj hL' hh K) (fun _ => ?_)
    refine And.intro (fun _ => g_law_meet_R2 hΦ hz hj hL' hh K) (fun _ => ?_)
    refine And.intro (fun _ => g_law_again_R2 hΦ hz hj hL' hh K) (fun _ => ?_)
    refine And.intro (fun _ => g_law_home_R2 hΦ hz hj hL' hh K) (fun _ => ?_)
    refine And.intro (fun _ => g_law_lying_R2 hΦ hz hj hL' hh K) (fun _ => ?_)
    refine And.intro (fun _ => g_law_stamped_R2 hΦ hz hj hL' hh K) (fun _ => ?_)
    refine And.intro (fun _ => g_law_hang_R2 hΦ hz hj hL' hh K) (fun _ => ?_)
    refine And.intro (fun _ => g_law_falseOnes_R2 hΦ hz hj hL' hh K) (fun _ => ?_)
    refine And.intro (fun _ => g_law_printed_R2 hΦ hz hj hL' hh K) (fun _ => ?_)
    refine And.intro (fun _ => g_law_ship_R2 hΦ hz hj hL' hh K) (fun _ => ?_)
    refine And.intro (fun _ => g_law_mule_R2 hΦ hz hj hL' hh K) (fun _ => ?_)
    refine And.intro (fun _ => g_law_marks_R2 hΦ hz hj hL' hh K) (fun _ => ?_)
    refine And.intro (fun _ => g_law_franked_R2 hΦ hz hj hL' hh K) (fun _ => ?_)
    refine And.intro (fun _ => g_law_exchange_R2 hΦ hz hj hL' hh K) (fun _ => ?_)
    refine And.intro (fun _ => g_law_seed_R2 hΦ hz hj hL' hh K) (fun _ => ?_)
    refine And.intro (fun _ => g_law_keep_R2 hΦ hz hj hL' hh K) (fun _ => ?_)
    refine And.intro (fun _ => g_law_undo_R2 hΦ hz hj hL' hh K) (fun _ => ?_)
    refine And.intro (fun _ => g_law_check_R2 hΦ hz hj hL' hh K) (fun _ => ?_)
    refine And.intro (fun _ => g_law_count_R2 hΦ hz hj hL' hh K) (fun _ => ?_)
    exact K τ h hΦ ⟨hz, Or.inr (Or.inr hh)⟩

set_option maxRecDepth 100000 in
theorem g_law_start {l : Launch} {Ls : Nat} {xs : Nat → Int32} : b_L_law_0 l Ls xs (exb (JL Ls)) (enL [.inr (some (.inr []))] 4) [] [] := by
  refine And.intro rfl ?_
  refine callA c_X11_init rfl rfl rfl rfl ?_
  rintro r h' ⟨rfl, rfl⟩
  refine And.intro rfl (And.intro rfl (And.intro rfl ?_))
  refine And.intro rfl ?_
  refine callA c_X12_init rfl rfl rfl rfl ?_
  rintro r h' ⟨rfl, rfl⟩
  refine And.intro rfl (And.intro rfl (And.intro rfl ?_))
  exact ⟨Ls, T0, 0, Φ0, rfl, rfl, rfl, RR0, Or.inl (Or.inl FR_ok)⟩

theorem ev_start {s : State} {b : Nat} (hts : ∀ w ∈ lw_tbl, w.before #[Value.ref b] s = true) (hgv : (Jvm.Cond.and given_1 narrow_1).before #[Value.ref b] s = true) : ∃ sa va : Nat, EV sa va (fun q : Nat => s.heap.size ≤ q) s s.heap := by
  have hf := flat_of_before _ hgv
  have hA : ∀ a : Nat, a < s.heap.size → ¬ (fun q : Nat => s.heap.size ≤ q) a := fun a h => Nat.not_le.mpr h
  obtain ⟨adK, adV, hS, hev⟩ := vk_Sof (args := #[Value.ref b]) (s := s) (N := 1) (tm := fun _ => .string RX3 94) (len := [9]) (byt := [[115, 109, 103, 117, 100, 110, 108, 116, 119]]) (A := fun q : Nat => s.heap.size ≤ q) (fun i hi => by
      obtain rfl : i = 0 := by omega
      decide) (fun i hi => hf _ (by decide +kernel)) (fun i hi => hf _ (by decide +kernel)) (fun i hi => hf _ (by decide +kernel)) (fun i hi => by
      obtain rfl : i = 0 := by omega
      exact hf (Cond.eq (.length (.field (.string RX3 94) "java/lang/String" "value" "[B")) (.int 9)) (by decide +kernel)) (fun i hi j hj => by
      obtain rfl : i = 0 := by omega
      match j, hj with
      | 0, _ => exact hf (Cond.eq (.elem (.field (.string RX3 94) "java/lang/String" "value" "[B") (.int 0)) (.int 115)) (by decide +kernel)
      | 1, _ => exact hf (Cond.eq (.elem (.field (.string RX3 94) "java/lang/String" "value" "[B") (.int 1)) (.int 109)) (by decide +kernel)
      | 2, _ => exact hf (Cond.eq (.elem (.field (.string RX3 94) "java/lang/String" "value" "[B") (.int 2)) (.int 103)) (by decide +kernel)
      | 3, _ => exact hf (Cond.eq (.elem (.field (.string RX3 94) "java/lang/String" "value" "[B") (.int 3)) (.int 117)) (by decide +kernel)
      | 4, _ => exact hf (Cond.eq (.elem (.field (.string RX3 94) "java/lang/String" "value" "[B") (.int 4)) (.int 100)) (by decide +kernel)
      | 5, _ => exact hf (Cond.eq (.elem (.field (.string RX3 94) "java/lang/String" "value" "[B") (.int 5)) (.int 110)) (by decide +kernel)
      | 6, _ => exact hf (Cond.eq (.elem (.field (.string RX3 94) "java/lang/String" "value" "[B") (.int 6)) (.int 108)) (by decide +kernel)
      | 7, _ => exact hf (Cond.eq (.elem (.field (.string RX3 94) "java/lang/String" "value" "[B") (.int 7)) (.int 116)) (by decide +kernel)
      | 8, _ => exact hf (Cond.eq (.elem (.field (.string RX3 94) "java/lang/String" "value" "[B") (.int 8)) (.int 119)) (by decide +kernel)
      | j + 9, hj => exact absurd hj (by show ¬ j + 9 < 9; omega)) (fun i j hi hj hn => absurd (show i = j by omega) hn) hA
  refine ⟨adK 0, adV 0, vk_R.of (hts (Cond.stringRef RX3 94 "smgudnltw") (by decide +kernel)) (hev 0 (by omega)), ⟨fun i hi => ?_, fun i j hi hj _ => by omega⟩, va_Zof (hts (Cond.laysStatic "java/lang/String" "COMPACT_STRINGS" "Z") (by decide +kernel)) (hts (Cond.initialized "java/lang/String") (by decide +kernel)) (va_eqt (hf (Cond.eq (Term.static "java/lang/String" "COMPACT_STRINGS" "Z") (.int 1)) (by decide +kernel))) hA⟩
  obtain rfl : i = 0 := by omega
  exact hS.1 0 hi

set_option maxHeartbeats 4000000 in
set_option maxRecDepth 100000 in
theorem whole_start {p : Program} {e : Env} {s : State} {m : MethodId} {below : List Frame} {meth : Method} {c : Code} (l : Launch) (hflags : l.flags = flags0) {b L : Nat} {xs : Nat → Int32} (hL : L ≤ 3072) (C0 : lw_At p s m meth c b L xs) : W p l e room_1 s m #[Value.ref b] below meth c s.heap [] 0 0 (lw_Z below #[Value.ref b] s) (entryFrame m ([Value.ref b] : List Value).toArray 4) := by
  obtain ⟨hx, hb, hr, hml, hown, hts, hX, hbl, hlocks, hgv⟩ := id C0
  have hTB : ∀ w ∈ TB, w.before #[Value.ref b] s = true := fun w hw => hts w (TB_tbl hw)
  have hNW : ∀ w ∈ NW, va_Nw w s := fun w hw => NW_of hw (hts w (NW_tbl hw))
  have hex : ∀ k : Nat, ∃ (cC : ClassId) (iS : Nat → Nat), ∀ q : vw_C, vwCl[k]? = some q → u_Kn s q.1 q.2.1 q.2.2 cC iS := fun k => match k with
    | 0 => ⟨_, _, fun q hq => by cases hq; exact (u_known (C := RX0) (T := TX0) (N := 6) (n := 6) hTB inX0 (hTB _ (mT1 113 (by decide +kernel) (by decide +kernel)))).choose_spec.choose_spec⟩
    | 1 => ⟨_, _, fun q hq => by cases hq; exact (u_known (C := RX1) (T := TX1) (N := 5) (n := 5) hTB inX1 (hTB _ (mT1 138 (by decide +kernel) (by decide +kernel)))).choose_spec.choose_spec⟩
    | 2 => ⟨_, _, fun q hq => by cases hq; exact (u_known (C := RX2) (T := TX2) (N := 10) (n := 10) hTB inX2 (hTB _ (mT2 6 (by decide +kernel) (by decide +kernel)))).choose_spec.choose_spec⟩
    | 3 => ⟨_, _, fun q hq => by cases hq; exact (u_known (C := RX3) (T := TX3) (N := 6) (n := 6) hTB inX3 (hTB _ (mT2 43 (by decide +kernel) (by decide +kernel)))).choose_spec.choose_spec⟩
    | 4 => ⟨_, _, fun q hq => by cases hq; exact (u_known (C := RX4) (T := TX4) (N := 8) (n := 8) hTB inX4 (hTB _ (mT1 79 (by decide +kernel) (by decide +kernel)))).choose_spec.choose_spec⟩
    | 5 => ⟨_, _, fun q hq => by cases hq; exact (u_known (C := RX5) (T := TX5) (N := 11) (n := 11) hTB inX5 (hTB _ (mT1 216 (by decide +kernel) (by decide +kernel)))).choose_spec.choose_spec⟩
    | 6 => ⟨_, _, fun q hq => by cases hq; exact (u_known (C := RX7) (T := TX7) (N := 8) (n := 8) hTB inX7 (hTB _ (mT1 47 (by decide +kernel) (by decide +kernel)))).choose_spec.choose_spec⟩
    | 7 => ⟨_, _, fun q hq => by cases hq; exact (u_known (C := RX8) (T := TX8) (N := 5) (n := 5) hTB inX8 (hTB _ (mT1 160 (by decide +kernel) (by decide +kernel)))).choose_spec.choose_spec⟩
    | 8 => ⟨_, _, fun q hq => by cases hq; exact (u_known (C := RX9) (T := TX9) (N := 8) (n := 8) hTB inX9 (hTB _ (mT1 182 (by decide +kernel) (by decide +kernel)))).choose_spec.choose_spec⟩
    | 9 => ⟨_, _, fun q hq => by cases hq; exact (u_known (C := RX10) (T := TX10) (N := 2) (n := 2) hTB inX10 (hTB _ (mT1 32 (by decide +kernel) (by decide +kernel)))).choose_spec.choose_spec⟩
    | 10 => ⟨_, _, fun q hq => by cases hq; exact (u_known (C := RX11) (T := TX11) (N := 15) (n := 15) hTB inX11 (hTB _ (mT1 24 (by decide +kernel) (by decide +kernel)))).choose_spec.choose_spec⟩
    | 11 => ⟨_, _, fun q hq => by cases hq; exact (u_known (C := RX12) (T := TX12) (N := 53) (n := 53) hTB inX12 (hTB _ (mT6 41 (by decide +kernel) (by decide +kernel)))).choose_spec.choose_spec⟩
    | _ + 12 => ⟨0, fun _ => 0, fun q hq => by cases hq⟩
  have hAr : ∀ ty : FieldType, Cond.arrayClass ty ∈ TB → ∃ cA : ClassId, ArrOfT s cA ty ∧ s.vm.findClass ("[" ++ ty.toString) = some cA := by
    intro ty hty
    obtain ⟨cA, kA, comp, hfind, hk, hkind⟩ := Cond.arrayClass_spec (hTB _ hty)
    exact ⟨cA, fun n z => ⟨fun k h => (by cases h), kA, hk, comp, hkind⟩, hfind⟩
  obtain ⟨cI, hI1, hI2⟩ := hAr .int (mT1 45 (by decide +kernel) (by decide +kernel))
  obtain ⟨cB, hB1, hB2⟩ := hAr .byte (mT3 119 (by decide +kernel) (by decide +kernel))
  obtain ⟨cZ, hZ1, hZ2⟩ := hAr .boolean (mT1 77 (by decide +kernel) (by decide +kernel))
  obtain ⟨D, hD⟩ : ∃ D : va_G, ∀ (k : Nat) (q : vw_C), vwCl[k]? = some q → u_Kn s q.1 q.2.1 q.2.2 (D.1 k) (D.2 k) :=
    ⟨(fun k => (hex k).choose, fun k => (hex k).choose_spec.choose), fun k q hq => (hex k).choose_spec.choose_spec q hq⟩
  obtain ⟨cs, hcs0, hcs1, hcs2⟩ : ∃ cs : Nat → ClassId, cs 0 = cI ∧ cs 1 = cB ∧ cs 2 = cZ := ⟨fun k => if k = 0 then cI else if k = 1 then cB else cZ, rfl, rfl, rfl⟩
  have hK : va_K D vwCl (tys cs) s := ⟨hD, fun k q hq => by
    unfold tys at hq
    match k, hq with
    | 0, hq => cases hq; rw [hcs0]; exact ⟨hI1, hI2⟩
    | 1, hq => cases hq; rw [hcs1]; exact ⟨hB1, hB2⟩
    | 2, hq => cases hq; rw [hcs2]; exact ⟨hZ1, hZ2⟩
    | k + 3, hq => cases hq⟩
  obtain ⟨sa, va, hEV⟩ := ev_start hts hgv
  obtain ⟨a0, ea, eb, ec⟩ : ∃ a0 : PR → Nat, a0 (.inl 1000000) = sa ∧ a0 (.inl 1000001) = va ∧ a0 (.inr []) = b := ⟨fun r => Sum.elim (fun k => if k = 1000000 then sa else if k = 1000001 then va else b) (fun _ => b) r, if_pos rfl, (if_neg (by decide)).trans (if_pos rfl), rfl⟩
  have Y : SC s b L xs a0 := ⟨hX, hbl, ec⟩
  have X : MC p s m #[Value.ref b] meth c RL meth.name cL_law 4 ret D cs (fun q : Nat => s.heap.size ≤ q) a0 := ⟨hx, hb, hml, hown, hTB, hNW, hK, fun _ h => h, hr, rfl, hlocks, by rw [ea, eb]; exact hEV⟩
  rw [lg_entry_eq]
  have key : ∀ μ : Nat, BK p l e room_1 s m #[Value.ref b] below meth c 4 D cs (fun q : Nat => s.heap.size ≤ q) 0 a0 (lw_Z below #[Value.ref b] s) 18 87 7533 (JL L μ) := by
    intro μ
    induction μ using Nat.strongRecOn with
    | _ μ ih =>
      intro ad ls L' st h H locs q1 q2 q3 q4 q5 hB
      rcases JL_or hB with hB | hB
      · exact k_L_law_18 X Y (BK.ltb (fun μ' h => ih μ' h)) ad ls L' st h H locs q1 q2 q3 q4 q5 (g_law_head1 hL μ L' st h hB)
      · exact k2_L_law_18 X Y (BK.ltb (fun μ' h => ih μ' h)) ad ls L' st h H locs q1 q2 q3 q4 q5 (g_law_head2 hL μ L' st h hB)
  have eA : cV a0 (.inr (some (.inr []))) = Value.ref b := congrArg Value.ref ec
  have h0 := k_L_law_0 (l := l) (e := e) (below := below) X Y (BK.exb key) a0 _ (enL [.inr (some (.inr []))] 4) [] [] s.heap [] ⟨Nat.le_refl _, fun _ _ => rfl, fun _ => rfl⟩ (plr_entry a0 [.inr (some (.inr []))] (nL := 4) (by decide)) (fun k q h => by simp [cW] at h) ⟨fun i j p q h => by simp [cW] at h, fun k q h => by simp [cW] at h⟩ va_S.rf g_law_start
  rw [List.map_cons, List.map_nil, eA] at h0
  exact h0
