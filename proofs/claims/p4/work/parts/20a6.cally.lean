/-! ===== a call with two ends: its answer is below nothing, or not ===== -/
def conOkY (M : List PV → PH → (Option PV → PH → Prop) → Prop) (xs : List Int32) (H H2 H3 : List AC) (Q : (Nat → List (Option Nat)) → Int32 → Prop) : Prop := ∀ (τ : Nat → List (Option Nat)), Φ τ → ∀ (h : PH), all2 (gC ρ0 τ) H h → M (.inr (some (.inl 0)) :: xs.map .inl) h (fun r h' => ∃ y : Int32, r = some (.inl y) ∧ Q τ y ∧ ((y < 0 ∧ all2 (gC ρ0 τ) H2 h') ∨ (¬ y < 0 ∧ all2 (gC ρ0 τ) H3 h')))
theorem callY {τ : Nat → List (Option Nat)} {M : List PV → PH → (Option PV → PH → Prop) → Prop} {xs : List Int32} {C C2 C3 : List AC} {Q : (Nat → List (Option Nat)) → Int32 → Prop} {ci n a : Nat} {ρs : List Nat} {tm : List AV} {H H2 H3 : List AC} {k : Blk} {L : PL} {st rest : List PV} {h : PH} (hΦ : Φ τ) (hC : conOkY M xs C C2 C3 Q) (hh : all2 (gC ρ0 τ) H h) (hp : ∀ K : List PV → List PV → Prop, K (.inr (some (.inl a)) :: xs.map .inl) rest → popN n st [] K) (hl : Nat.ble rest.length 8 = true) (ha : nth H a = some (.inr (ci, (match nth H a with | some (.inr (_, fs)) => fs | _ => [])))) (hq : posq ρs a 0 = some 0) (hw2 : subH H2 (wbA ρs tm ρs C2 H) = true) (hw3 : subH H3 (wbA ρs tm ρs C3 H) = true) (hc : ((Nat.ble ρs.length 1000 && Nat.ble H.length 1000 && va_nd ρs) && mH [] ρs tm H C ρs) = true) (hk2 : ∀ (y : Int32) h2, Q (tauC τ tm) y → all2 (gC ρ0 τ) H2 h2 → k L (.inl y :: rest) h2) (hk3 : ∀ (y : Int32) h2, Q (tauC τ tm) y → all2 (gC ρ0 τ) H3 h2 → k L (.inl y :: rest) h2) : o_call M (some ci) n ρs k L st h := by
  have hG : gG ρ0 ([] : List (Int × Int)) := fun _ _ _ e => by cases e
  obtain ⟨G2, hw2, hv2⟩ := subH_ok hw2
  obtain ⟨G3, hw3, hv3⟩ := subH_ok hw3
  simp only [Bool.and_eq_true] at hc
  obtain ⟨⟨⟨g2, g2'⟩, g3⟩, g5⟩ := hc
  unfold o_call
  apply hp
  obtain ⟨e, he, hge⟩ := all2_nth hh ha
  rcases e with ⟨t', n', f⟩ | ⟨ci', fs'⟩
  · exact hge.elim
  obtain ⟨rfl, _⟩ := hge
  unfold rcK
  dsimp only
  rw [he]
  dsimp only
  rw [Nat.beq_refl]
  refine ⟨by rw [all2_len hh, g2, g2', hl]; rfl, g3, pick_in hG hh g5 (fun hc hhc => ?_)⟩
  rw [unL_eq, List.map_cons, un1_ints]
  have e0 : un1 ρs (.inr (some (.inl a))) = .inr (some (.inl 0)) := by
    unfold un1
    dsimp only
    rw [hq]
  rw [e0]
  refine ⟨_, hC (tauC τ tm) (Φ_tau hΦ) hc hhc, fun r' h' hpost => ?_⟩
  obtain ⟨y, rfl, pQ, (⟨_, p4⟩ | ⟨_, p4⟩)⟩ := hpost
  · refine wb_in ρs C2 H G2 h' h _ hw2 p4 hh (fun h2' hh2 => ?_)
    exact hk2 y h2' pQ (all2b_imp (leC_ok hG) hv2 hh2)
  · refine wb_in ρs C3 H G3 h' h _ hw3 p4 hh (fun h2' hh2 => ?_)
    exact hk3 y h2' pQ (all2b_imp (leC_ok hG) hv3 hh2)
theorem ch200 {t : Nat} (h : kT t = true) : (Nat.ble 100 t && Nat.ble t 200) = false := by
  unfold kT at h
  cases e1 : Nat.ble 100 t
  · rfl
  · rw [e1, Bool.not_true, Bool.false_or] at h
    have q := Nat.ble_eq.mp h
    cases e2 : Nat.ble t 200
    · rfl
    · have := Nat.ble_eq.mp e2
      omega
theorem kT200 {t : Nat} (h : (Nat.ble 100 t && Nat.ble t 200) = false) : kT t = true := by
  unfold kT
  cases e1 : Nat.ble 100 t
  · rfl
  · rw [e1, Bool.true_and] at h
    rw [Bool.not_true, Bool.false_or]
    exact Nat.ble_eq.mpr (by
      rcases (by omega : t ≤ 200 ∨ 201 ≤ t) with q | q
      · rw [Nat.ble_eq.mpr q] at h
        cases h
      · exact q)

