/-! ===== the constant text ===== -/
def a_k1 (p : Nat) (v : AV) (K : Sg → Bool) (σ : Sg) : Bool := match σ.2.2.2.1 with
  | .inr (.inr (some (.inl a))) :: r => (Nat.beq a p && Nat.ble σ.2.2.2.2.length 1000) && K (sS σ (v :: r))
  | _ => false
def a_ldcs (K : Sg → Bool) (σ : Sg) : Bool := Nat.ble σ.2.2.2.2.length 1000 && K (sS σ (.inr (.inr (some (.inl 1000000))) :: σ.2.2.2.1))
def a_kbald (K : Sg → Bool) (σ : Sg) : Bool := match σ.2.2.2.1 with
  | i :: .inr (.inr (some (.inl a))) :: r => match iv σ.1 i with
    | some (x, y) => ((Nat.beq a 1000001 && Nat.ble σ.2.2.2.2.length 1000) && (ile 0 x && ile (y + 1) 9)) && K (sS σ (topA :: r))
    | none => false
  | _ => false
def rcK0 (as : List AV) : Bool := match as with
  | .inr (.inr (some (.inl a))) :: _ => Nat.beq a 1000000
  | _ => false
def a_callK (C : Con) (n : Nat) (tm : List AV) (K : Sg → Bool) (σ : Sg) : Bool := match popA n σ.2.2.2.1 [] with
  | some (as, r) => (rcK0 as && (Nat.ble r.length 8 && Nat.ble ([] : List Nat).length 1000 && Nat.ble σ.2.2.2.2.length 1000)) && ((all2b (mA σ.1 [] tm) C.1 as && mH σ.1 [] tm σ.2.2.2.2 C.2.1 []) && altK [] tm K r σ C.2.2)
  | none => false
section ABS9
variable {ρ : Nat → Int} {τ : Nat → List (Option Nat)} {m0 : Int} {K Kt Kf : Sg → Bool} {k kt kf : Blk} {G : List (Int × Int)} {tm : List AV}
theorem s_ldcs (hk : ∀ σ, K σ = true → Sf τ m0 k σ) (σ : Sg) (h : a_ldcs K σ = true) : Sf τ m0 (o_ldcs k) σ := by
  intro ρ L st hp hS
  obtain ⟨hG, hF, h1, h2, h3⟩ := hS
  unfold a_ldcs at h
  rw [Bool.and_eq_true] at h
  exact ⟨by rw [all2_len h3]; exact h.1, hk _ h.2 ρ L _ hp ⟨hG, hF, h1, ⟨rfl, h2⟩, h3⟩⟩
theorem s_k1 {p : Nat} {v : AV} {w : PV} (hv : ∀ ρ, gV ρ τ v w) (hk : ∀ σ, K σ = true → Sf τ m0 k σ) (σ : Sg) (h : a_k1 p v K σ = true) : ∀ (ρ : Nat → Int) (L : PL) (st : List PV) (h : PH), gS ρ τ m0 σ L st h → ∃ r, st = .inr (some (.inl p)) :: r ∧ Nat.ble h.length 1000 = true ∧ k L (w :: r) h := by
  intro ρ L st hp hS
  obtain ⟨G, F, La, sa, Ha⟩ := σ
  obtain ⟨hG, hF, h1, h2, h3⟩ := hS
  rcases sa with _ | ⟨⟨lo, hi⟩ | ⟨kk, d⟩ | _ | a | t, r⟩
  · cases h
  · cases h
  · cases h
  · cases h
  · unfold a_k1 at h
    dsimp only at h
    rw [Bool.and_eq_true, Bool.and_eq_true] at h
    obtain ⟨⟨g1, g2⟩, h⟩ := h
    obtain ⟨u, st', rfl, hu, h2a⟩ := all2_cons h2
    cases (hu : u = .inr (some (.inl a)))
    cases Nat.eq_of_beq_eq_true g1
    exact ⟨st', rfl, by rw [all2_len h3]; exact g2, hk _ h ρ L _ hp ⟨hG, hF, h1, ⟨hv ρ, h2a⟩, h3⟩⟩
  · cases h
theorem s_kcoder (hk : ∀ σ, K σ = true → Sf τ m0 k σ) (σ : Sg) (h : a_k1 1000000 (.inl (0, 0)) K σ = true) : Sf τ m0 (o_kcoder k) σ := by
  intro ρ L st hp hS
  obtain ⟨r, rfl, g1, g2⟩ := s_k1 (τ := τ) (v := .inl (0, 0)) (w := .inl 0) (fun ρ => ⟨0, rfl, Int.le_refl _, Int.le_refl _⟩) hk σ h ρ L st hp hS
  exact ⟨g1, g2⟩
theorem s_kvalue (hk : ∀ σ, K σ = true → Sf τ m0 k σ) (σ : Sg) (h : a_k1 1000000 (.inr (.inr (some (.inl 1000001)))) K σ = true) : Sf τ m0 (o_kvalue k) σ := by
  intro ρ L st hp hS
  obtain ⟨r, rfl, g1, g2⟩ := s_k1 (τ := τ) (v := .inr (.inr (some (.inl 1000001)))) (w := .inr (some (.inl 1000001))) (fun ρ => rfl) hk σ h ρ L st hp hS
  exact ⟨g1, g2⟩
theorem s_klen (hk : ∀ σ, K σ = true → Sf τ m0 k σ) (σ : Sg) (h : a_k1 1000001 (.inl (9, 9)) K σ = true) : Sf τ m0 (o_klen k) σ := by
  intro ρ L st hp hS
  obtain ⟨r, rfl, g1, g2⟩ := s_k1 (τ := τ) (v := .inl (9, 9)) (w := .inl 9) (fun ρ => ⟨9, rfl, Int.le_refl _, Int.le_refl _⟩) hk σ h ρ L st hp hS
  exact ⟨g1, g2⟩
theorem s_kbald (hk : ∀ σ, K σ = true → Sf τ m0 k σ) (σ : Sg) (h : a_kbald K σ = true) : Sf τ m0 (o_kbald k) σ := by
  intro ρ L st hp hS
  obtain ⟨G, F, La, sa, Ha⟩ := σ
  obtain ⟨hG, hF, h1, h2, h3⟩ := hS
  rcases sa with _ | ⟨i, _ | ⟨⟨lo, hi⟩ | ⟨kk, d⟩ | _ | a | t, r⟩⟩
  · cases h
  · cases h
  · cases h
  · cases h
  · cases h
  · unfold a_kbald at h
    dsimp only at h
    split at h
    · rename_i x y hi'
      simp only [Bool.and_eq_true] at h
      obtain ⟨⟨⟨g1, g2⟩, g3, g4⟩, h⟩ := h
      have g3 := of_decide_eq_true g3
      have g4 := of_decide_eq_true g4
      cases Nat.eq_of_beq_eq_true g1
      obtain ⟨v, st', rfl, hv, h2a⟩ := all2_cons h2
      obtain ⟨w, st'', rfl, hw, h2b⟩ := all2_cons h2a
      cases (hw : w = .inr (some (.inl 1000001)))
      obtain ⟨z, rfl, hz⟩ := iv_ok hG hi' hv
      exact ⟨by rw [all2_len h3]; exact g2, vp_in_iff.mpr ⟨by omega, by omega⟩, hk _ h ρ L _ hp ⟨hG, hF, h1, ⟨topA_ok _, h2b⟩, h3⟩⟩
    · cases h
  · cases h
theorem s_callK {M : List PV → PH → (Option PV → PH → Prop) → Prop} {C : Con} {n : Nat} (hΦ : Φ τ) (hC : conOk M C) (hk : ∀ σ, K σ = true → Sf τ m0 k σ) (σ : Sg) (h : a_callK C n tm K σ = true) : Sf τ m0 (o_callK M n k) σ := by
  intro ρ L st hp hS
  obtain ⟨G, F, La, sa, Ha⟩ := σ
  obtain ⟨hG, hF, h1, h2, h3⟩ := hS
  unfold a_callK at h
  dsimp only at h
  split at h
  · rename_i as r epop
    rw [Bool.and_eq_true] at h
    obtain ⟨hA, hB⟩ := h
    rw [Bool.and_eq_true] at hA hB
    obtain ⟨g1, g2⟩ := hA
    obtain ⟨hB, g6⟩ := hB
    rw [Bool.and_eq_true] at hB
    obtain ⟨g4, g5⟩ := hB
    unfold o_callK
    refine pop_in n sa [] st [] epop h2 trivial (fun as' rest ha hr => ?_)
    have hlen : (Nat.ble rest.length 8 && Nat.ble ([] : List Nat).length 1000 && Nat.ble hp.length 1000) = true := by rw [all2_len hr, all2_len h3]; exact g2
    have body : (Nat.ble rest.length 8 && Nat.ble ([] : List Nat).length 1000 && Nat.ble hp.length 1000) = true ∧ va_nd [] = true ∧ pick [] hp [] (fun hc => unL [] as' (fun as' => ∃ post : Option PV → PH → Prop, M as' hc post ∧ ∀ (r : Option PV) (h' : PH), post r h' → wbK [] 0 hp.length [] h' hp (fun h2 => match r with
      | none => k L rest h2
      | some v => reK [] 0 hp.length v (fun v' => k L (v' :: rest) h2)))) := by
      refine ⟨hlen, rfl, pick_in hG h3 g5 (fun hc hhc => ?_)⟩
      rw [unL_eq]
      refine ⟨_, hC (tauC τ tm) (Φ_tau hΦ) (as'.map (un1 [])) hc (all2b_map (mA_ok hG) g4 ha) hhc, fun r' h' hpost => ?_⟩
      obtain ⟨q, hq, hret, hh'⟩ := hpost
      obtain ⟨H2, ewb, g6⟩ := altK_mem g6 hq
      refine wb_in [] q.2 Ha H2 h' hp _ ewb hh' h3 (fun h2' hh2 => ?_)
      unfold gR at hret
      have g6 : K (sH (sS (G, F, La, sa, Ha) (pushR q.1 r)) H2) = true := g6
      split at hret
      · rename_i er
        cases hret
        rw [er] at g6
        exact hk _ g6 ρ L rest h2' ⟨hG, hF, h1, hr, hh2⟩
      · rename_i lo hi er
        obtain ⟨x, rfl, hx⟩ := hret
        rw [er] at g6
        exact hk _ g6 ρ L _ h2' ⟨hG, hF, h1, ⟨⟨x, rfl, hx⟩, hr⟩, hh2⟩
    unfold rcK0 at g1
    split at g1
    · rename_i a as1
      obtain ⟨v, as2, rfl, hv, _⟩ := all2_cons ha
      cases (hv : v = .inr (some (.inl a)))
      dsimp only
      rw [g1]
      exact body
    · cases g1
  · cases h
end ABS9
def C_void : Con := ([.inl (1, 0)], [], [])
theorem s_void {M : List PV → PH → (Option PV → PH → Prop) → Prop} : conOk M C_void := by
  intro τ hΦ as h ha hh
  obtain ⟨v, as2, rfl, hv, _⟩ := all2_cons ha
  obtain ⟨x, rfl, hx⟩ := hv
  have := hx.1
  have := hx.2
  omega
