/-! ===== a guard: a call whose answer is asked at once; if it is not 0, an argument lies within bounds ===== -/
def pI (v : Int) : Int32 := match v with
  | .ofNat n => Int32.ofNat n
  | .negSucc n => -(Int32.ofNat (n + 1))
def gconOk (M : List PV → PH → (Option PV → PH → Prop) → Prop) (C : Con) (i : Nat) (lo hi : Int) : Prop := ∀ (τ : Nat → List (Option Nat)) (as : List PV) (h : PH), all2 (gV ρ0 τ) C.1 as → all2 (gC ρ0 τ) C.2.1 h → M as h (fun r h' => (∃ x : Int32, r = some (.inl x) ∧ 0 ≤ x.toInt) ∧ all2 (gC ρ0 τ) C.2.2.2 h' ∧ ∀ (x v : Int32), r = some (.inl x) → ¬ x = 0 → nth as i = some (.inl v) → lo ≤ v.toInt ∧ v.toInt ≤ hi)
theorem nth_map {ρs : List Nat} {v : Int32} : ∀ {l : List PV} {i : Nat}, nth l i = some (.inl v) → nth (l.map (un1 ρs)) i = some (.inl v)
  | [], _, h => by cases h
  | _ :: _, 0, h => by cases h; rfl
  | _ :: l, i + 1, h => nth_map (l := l) (i := i) h
def a_guard (C : Con) (i : Nat) (lo hi : Int) (rc : Option Nat) (n : Nat) (ρs : List Nat) (tm : List AV) (Kt Kf : Sg → Bool) (σ : Sg) : Bool := match popA n σ.2.2.2.1 [] with
  | some (as, r) => match wbA ρs tm ρs C.2.2.2 σ.2.2.2.2 with
    | some H2 => (rcA rc as σ.2.2.2.2 && (Nat.ble r.length 8 && Nat.ble ρs.length 1000 && Nat.ble σ.2.2.2.2.length 1000 && va_nd ρs)) && (((ieq (pI lo).toInt lo && ieq (pI hi).toInt hi) && (all2b (mA σ.1 ρs tm) C.1 as && mH σ.1 ρs tm σ.2.2.2.2 C.2.1 ρs)) && (Kt (sH (sS σ r) H2) && (match nth as i with
      | some ax => match iv σ.1 ax with
        | some (a, b) => match leR σ.1 (.inl (lo, lo)) ax lo b 0 with
          | some G1 => match leR G1 ax (.inl (hi, hi)) a hi 0 with
            | some G2 => Kf (sG (sH (sS σ r) H2) G2)
            | none => true
          | none => true
        | none => false
      | none => false)))
    | none => false
  | none => false
section ABS7
variable {ρ : Nat → Int} {τ : Nat → List (Option Nat)} {m0 : Int} {Kt Kf : Sg → Bool} {kt kf : Blk} {G : List (Int × Int)} {ρs : List Nat} {tm : List AV}
theorem s_guard {M : List PV → PH → (Option PV → PH → Prop) → Prop} {C : Con} {rc : Option Nat} {n i : Nat} {lo hi : Int} (hC : gconOk M C i lo hi) (ht : ∀ σ, Kt σ = true → Sf τ m0 kt σ) (hf : ∀ σ, Kf σ = true → Sf τ m0 kf σ) (σ : Sg) (h : a_guard C i lo hi rc n ρs tm Kt Kf σ = true) : Sf τ m0 (o_call M rc n ρs (o_if (fun x => cB 0 x 0) kt kf)) σ := by
  intro ρ L st hp hS
  obtain ⟨G, F, La, sa, Ha⟩ := σ
  obtain ⟨hG, hF, h1, h2, h3⟩ := hS
  unfold a_guard at h
  dsimp only at h
  split at h
  · rename_i as r epop
    split at h
    · rename_i H2 ewb
      rw [Bool.and_eq_true] at h
      obtain ⟨hA, hB⟩ := h
      rw [Bool.and_eq_true] at hA hB
      obtain ⟨g1, hA⟩ := hA
      rw [Bool.and_eq_true] at hA
      obtain ⟨g2, g3⟩ := hA
      obtain ⟨hB, g6⟩ := hB
      rw [Bool.and_eq_true] at hB
      obtain ⟨hB, g45⟩ := hB
      rw [Bool.and_eq_true] at hB
      obtain ⟨elo, ehi⟩ := hB
      have elo := of_decide_eq_true elo
      have ehi := of_decide_eq_true ehi
      rw [Bool.and_eq_true] at g45
      obtain ⟨g4, g5⟩ := g45
      unfold o_call
      refine pop_in n sa [] st [] epop h2 trivial (fun as' rest ha hr => ?_)
      have hlen : (Nat.ble rest.length 8 && Nat.ble ρs.length 1000 && Nat.ble hp.length 1000) = true := by rw [all2_len hr, all2_len h3]; exact g2
      have body : (Nat.ble rest.length 8 && Nat.ble ρs.length 1000 && Nat.ble hp.length 1000) = true ∧ va_nd ρs = true ∧ pick ρs hp ρs (fun hc => unL ρs as' (fun as' => ∃ post : Option PV → PH → Prop, M as' hc post ∧ ∀ (r : Option PV) (h' : PH), post r h' → wbK ρs 0 hp.length ρs h' hp (fun h2 => match r with
        | none => (o_if (fun x => cB 0 x 0) kt kf) L rest h2
        | some v => reK ρs 0 hp.length v (fun v' => (o_if (fun x => cB 0 x 0) kt kf) L (v' :: rest) h2)))) := by
        refine ⟨hlen, g3, pick_in hG h3 g5 (fun hc hhc => ?_)⟩
        rw [unL_eq]
        refine ⟨_, hC (tauC τ tm) (as'.map (un1 ρs)) hc (all2b_map (mA_ok hG) g4 ha) hhc, fun r' h' hpost => ?_⟩
        refine wb_in ρs C.2.2.2 Ha H2 h' hp _ ewb hpost.2.1 h3 (fun h2' hh2 => ?_)
        obtain ⟨x, rfl, hx⟩ := hpost.1
        rw [Bool.and_eq_true] at g6
        obtain ⟨g6, g7⟩ := g6
        refine And.intro (fun hc => ?_) (fun hc => ?_)
        · exact ht _ g6 ρ L rest h2' ⟨hG, hF, h1, hr, hh2⟩
        · split at g7
          · rename_i ax eax
            split at g7
            · rename_i a b eiv
              obtain ⟨v', hv', hgv⟩ := all2_nth ha eax
              obtain ⟨v, rfl, hv⟩ := iv_ok hG eiv hgv
              have hlim := hpost.2.2 x v rfl hc (nth_map hv')
              obtain ⟨G1, e1, hG1⟩ := leR_ok (δ := 0) (x := .inl (lo, lo)) (y := ax) (v := pI lo) (w := v) (a := lo) (d := b) hG ⟨pI lo, rfl, by omega, by omega⟩ hgv (by omega) hv.2 (by omega)
              rw [e1] at g7
              dsimp only at g7
              obtain ⟨G2, e2, hG2⟩ := leR_ok (δ := 0) (x := ax) (y := .inl (hi, hi)) (v := v) (w := pI hi) (a := a) (d := hi) hG1 hgv ⟨pI hi, rfl, by omega, by omega⟩ hv.1 (by omega) (by omega)
              rw [e2] at g7
              exact hf _ g7 ρ L rest h2' ⟨hG2, hF, h1, hr, hh2⟩
            · cases g7
          · cases g7
      cases rc with
      | none => exact body
      | some ci =>
        unfold rcA at g1
        dsimp only at g1
        split at g1
        · rename_i a as1
          split at g1
          · rename_i cj fs ecell
            obtain ⟨v, as2, rfl, hv, _⟩ := all2_cons ha
            cases (hv : v = .inr (some (.inl a)))
            obtain ⟨e, he, hge⟩ := all2_nth h3 ecell
            rcases e with ⟨t', n', f⟩ | ⟨ci', fs'⟩
            · exact hge.elim
            · obtain ⟨rfl, _⟩ := hge
              unfold rcK
              dsimp only
              rw [he]
              dsimp only
              rw [g1]
              exact body
          · cases g1
        · cases g1
    · cases h
  · cases h
end ABS7
