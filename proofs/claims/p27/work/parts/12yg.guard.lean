/-! ===== a guard: a call whose answer is asked at once; if it is not 0, an argument lies within bounds ===== -/
def pI (v : Int) : Int32 := match v with
  | .ofNat n => Int32.ofNat n
  | .negSucc n => -(Int32.ofNat (n + 1))
abbrev GCn : Type := List AV × List AC × Option (Int × Int) × List AC
def gconOk (M : List PV → PH → (Option PV → PH → Prop) → Prop) (C : GCn) (i : Nat) (lo hi : Int) : Prop := ∀ (τ : Nat → List (Option Nat)), Φ τ → ∀ (as : List PV) (h : PH), all2 (gV ρ0 τ) C.1 as → all2 (gC ρ0 τ) C.2.1 h → M as h (fun r h' => (∃ x : Int32, r = some (.inl x) ∧ 0 ≤ x.toInt) ∧ all2 (gC ρ0 τ) C.2.2.2 h' ∧ ∀ (x v : Int32), r = some (.inl x) → ¬ x = 0 → nth as i = some (.inl v) → lo ≤ v.toInt ∧ v.toInt ≤ hi)
theorem nth_map {ρs : List Nat} {v : Int32} : ∀ {l : List PV} {i : Nat}, nth l i = some (.inl v) → nth (l.map (un1 ρs)) i = some (.inl v)
  | [], _, h => by cases h
  | _ :: _, 0, h => by cases h; rfl
  | _ :: l, i + 1, h => nth_map (l := l) (i := i) h
def a_guard (C : GCn) (i : Nat) (lo hi : Int) (rc : Option Nat) (n : Nat) (ρs : List Nat) (tm : List AV) (Kt Kf : Sg → Bool) (σ : Sg) : Bool := match popA n σ.2.2.2.1 [] with
  | some (as, r) => match wbA ρs tm ρs C.2.2.2 σ.2.2.2.2 with
    | some H2 => (rcA rc as σ.2.2.2.2 && (Nat.ble r.length 8 && Nat.ble ρs.length 1000 && Nat.ble σ.2.2.2.2.length 1000 && va_nd ρs)) && (((ieq (pI lo).toInt lo && ieq (pI hi).toInt hi) && (all2b (mA σ.1 ρs tm) C.1 as && mH σ.1 ρs tm σ.2.2.2.2 C.2.1 ρs)) && (Kt (sH (sS σ r) H2) && (match nth as i with
      | some ax => match iv σ.1 ax with
        | some (a, b) => match leR σ.1 (.inl (lo, lo)) ax lo b 0 with
          | some G1 => match leR G1 ax (.inl (hi, hi)) a hi 0 with
            | some G2 => Kf (sG (sH (sS σ r) H2) G2)
            | none => true
          | none => true
        | none => false
      | none => false)))
    | none => false
  | none => false
section ABS7
variable {ρ : Nat → Int} {τ : Nat → List (Option Nat)} {m0 : Int} {Kt Kf : Sg → Bool} {kt kf : Blk} {G : List (Int × Int)} {ρs : List Nat} {tm : List AV}
theorem s_guard {M : List PV → PH → (Option PV → PH → Prop) → Prop} {C : GCn} {rc : Option Nat} {n i : Nat} {lo hi : Int} (hΦ : Φ τ) (hC : gconOk M C i lo hi) (ht : ∀ σ, Kt σ = true → Sf τ m0 kt σ) (hf : ∀ σ, Kf σ = true → Sf τ m0 kf σ) (σ : Sg) (h : a_guard C i lo hi rc n ρs tm Kt Kf σ = true) : Sf τ m0 (o_call M rc n ρs (o_if (fun x => cB 0 x 0) kt kf)) σ := by
  intro ρ L st hp hS
  obtain ⟨G, F, La, sa, Ha⟩ := σ
  obtain ⟨hG, hF, h1, h2, h3⟩ := hS
  unfold a_guard at h
  dsimp only at h
  split at h
  · rename_i as r epop
    split at h
    · rename_i H2 ewb
      rw [Bool.and_eq_true] at h
      obtain ⟨hA, hB⟩ := h
      rw [Bool.and_eq_true] at hA hB
      obtain ⟨g1, hA⟩ := hA
      rw [Bool.and_eq_true] at hA
      obtain ⟨g2, g3⟩ := hA
      obtain ⟨hB, g6⟩ := hB
      rw [Bool.and_eq_true] at hB
      obtain ⟨hB, g45⟩ := hB
      rw [Bool.and_eq_true] at hB
      obtain ⟨elo, ehi⟩ := hB
      have elo := of_decide_eq_true elo
      have ehi := of_decide_eq_true ehi
      rw [Bool.and_eq_true] at g45
      obtain ⟨g4, g5⟩ := g45
      unfold o_call
      refine pop_in n sa [] st [] epop h2 trivial (fun as' rest ha hr => ?_)
      have hlen : (Nat.ble rest.length 8 && Nat.ble ρs.length 1000 && Nat.ble hp.length 1000) = true := by rw [all2_len hr, all2_len h3]; exact g2
      have body : (Nat.ble rest.length 8 && Nat.ble ρs.length 1000 && Nat.ble hp.length 1000) = true ∧ va_nd ρs = true ∧ pick ρs hp ρs (fun hc => unL ρs as' (fun as' => ∃ post : Option PV → PH → Prop, M as' hc post ∧ ∀ (r : Option PV) (h' : PH), post r h' → wbK ρs 0 hp.length ρs h' hp (fun h2 => match r with
        | none => (o_if (fun x => cB 0 x 0) kt kf) L rest h2
        | some v => reK ρs 0 hp.length v (fun v' => (o_if (fun x => cB 0 x 0) kt kf) L (v' :: rest) h2)))) := by
        refine ⟨hlen, g3, pick_in hG h3 g5 (fun hc hhc => ?_)⟩
        rw [unL_eq]
        refine ⟨_, hC (tauC τ tm) (Φ_tau hΦ) (as'.map (un1 ρs)) hc (all2b_map (mA_ok hG) g4 ha) hhc, fun r' h' hpost => ?_⟩
        refine wb_in ρs C.2.2.2 Ha H2 h' hp _ ewb hpost.2.1 h3 (fun h2' hh2 => ?_)
        obtain ⟨x, rfl, hx⟩ := hpost.1
        rw [Bool.and_eq_true] at g6
        obtain ⟨g6, g7⟩ := g6
        refine And.intro (fun hc => ?_) (fun hc => ?_)
        · exact ht _ g6 ρ L rest h2' ⟨hG, hF, h1, hr, hh2⟩
        · split at g7
          · rename_i ax eax
            split at g7
            · rename_i a b eiv
              obtain ⟨v', hv', hgv⟩ := all2_nth ha eax
              obtain ⟨v, rfl, hv⟩ := iv_ok hG eiv hgv
              have hlim := hpost.2.2 x v rfl hc (nth_map hv')
              obtain ⟨G1, e1, hG1⟩ := leR_ok (δ := 0) (x := .inl (lo, lo)) (y := ax) (v := pI lo) (w := v) (a := lo) (d := b) hG ⟨pI lo, rfl, by omega, by omega⟩ hgv (by omega) hv.2 (by omega)
              rw [e1] at g7
              dsimp only at g7
              obtain ⟨G2, e2, hG2⟩ := leR_ok (δ := 0) (x := ax) (y := .inl (hi, hi)) (v := v) (w := pI hi) (a := a) (d := hi) hG1 hgv ⟨pI hi, rfl, by omega, by omega⟩ hv.1 (by omega) (by omega)
              rw [e2] at g7
              exact hf _ g7 ρ L rest h2' ⟨hG2, hF, h1, hr, hh2⟩
            · cases g7
          · cases g7
      cases rc with
      | none => exact body
      | some ci =>
        unfold rcA at g1
        dsimp only at g1
        split at g1
        · rename_i a as1
          split at g1
          · rename_i cj fs ecell
            obtain ⟨v, as2, rfl, hv, _⟩ := all2_cons ha
            cases (hv : v = .inr (some (.inl a)))
            obtain ⟨e, he, hge⟩ := all2_nth h3 ecell
            rcases e with ⟨t', n', f⟩ | ⟨ci', fs'⟩
            · exact hge.elim
            · obtain ⟨rfl, _⟩ := hge
              unfold rcK
              dsimp only
              rw [he]
              dsimp only
              rw [g1]
              exact body
          · cases g1
        · cases g1
    · cases h
  · cases h
end ABS7
/-! ===== a test for 0 that halves; a copy; a call at one of several classes ===== -/
def a_ifs (Kt Kf : Sg → Bool) (σ : Sg) : Bool := match σ.2.2.2.1 with
  | x :: r => match iv σ.1 x with
    | some (a, b) => brK (refC 0 σ.1 x (.inl (0, 0)) a b 0 0) Kt (sS σ r) && (brK (refC 1 σ.1 x (.inl (0, 0)) a b 0 0) Kf (sS σ r) && brK (refC 3 σ.1 x (.inl (0, 0)) a b 0 0) Kf (sS σ r))
    | _ => false
  | _ => false
def a_acopy (K : Sg → Bool) (σ : Sg) : Bool := match σ.2.2.2.1 with
  | n :: dp :: .inr (.inr (some (.inl a))) :: sp :: .inr (.inr (some (.inl a'))) :: r => match nth σ.2.2.2.2 a', nth σ.2.2.2.2 a with
    | some (.inl (t0, n0, lo, hi)), some (.inl (t1, n1, lo', hi')) => match iv σ.1 n, iv σ.1 dp, iv σ.1 sp with
      | some (x, y), some (x1, y1), some (x2, y2) => ((Nat.beq t0 0 && Nat.beq t1 0) && (Nat.ble r.length 8 && (ile 0 x && ile 0 x1) && (ile 0 x2 && (ile (y2 + y) n0 && ile (y1 + y) n1)))) && K (sH (sS σ r) (setl σ.2.2.2.2 a (.inl (0, n1, minI lo lo', maxI hi hi'))))
      | _, _, _ => false
    | _, _ => false
  | _ => false
def rcL (cis : List Nat) (as : List AV) (H : List AC) : Bool := match as with
  | .inr (.inr (some (.inl a))) :: _ => match nth H a with
    | some (.inr (cj, _)) => cis.contains cj
    | _ => false
  | _ => false
def a_callL (C : Con) (cis : List Nat) (n : Nat) (ρs : List Nat) (tm : List AV) (K : Sg → Bool) (σ : Sg) : Bool := match popA n σ.2.2.2.1 [] with
  | some (as, r) => (rcL cis as σ.2.2.2.2 && (Nat.ble r.length 8 && Nat.ble ρs.length 1000 && Nat.ble σ.2.2.2.2.length 1000 && va_nd ρs)) && ((all2b (mA σ.1 ρs tm) C.1 as && mH σ.1 ρs tm σ.2.2.2.2 C.2.1 ρs) && altK ρs tm K r σ C.2.2)
  | none => false
section ABS8
variable {ρ : Nat → Int} {τ : Nat → List (Option Nat)} {m0 : Int} {K Kt Kf : Sg → Bool} {k kt kf : Blk} {G : List (Int × Int)} {ρs : List Nat} {tm : List AV}
theorem s_ifs (ht : ∀ σ, Kt σ = true → Sf τ m0 kt σ) (hf : ∀ σ, Kf σ = true → Sf τ m0 kf σ) (σ : Sg) (h : a_ifs Kt Kf σ = true) : Sf τ m0 (o_if (fun x => cB 0 x 0) kt kf) σ := by
  intro ρ L st hp hS
  obtain ⟨G, F, La, sa, Ha⟩ := σ
  obtain ⟨hG, hF, h1, h2, h3⟩ := hS
  unfold a_ifs at h
  rcases sa with _ | ⟨x, r⟩
  · cases h
  · dsimp only at h
    split at h
    · rename_i a b e1
      rw [Bool.and_eq_true, Bool.and_eq_true] at h
      obtain ⟨hA, hB, hC⟩ := h
      obtain ⟨w, st'', rfl, hw, h2b⟩ := all2_cons h2
      obtain ⟨w', rfl, hw'⟩ := iv_ok hG e1 hw
      have hz : gV ρ τ (.inl (0, 0)) (.inl (0 : Int32)) := ⟨0, rfl, Int.le_refl _, Int.le_refl _⟩
      have hz' : (0 : Int) ≤ (0 : Int32).toInt ∧ (0 : Int32).toInt ≤ 0 := ⟨Int.le_refl _, Int.le_refl _⟩
      have e0 : (0 : Int32).toInt = 0 := rfl
      refine And.intro (fun hc => ?_) (fun hc => ?_)
      · obtain ⟨G', eG, hG'⟩ := refC_ok (q := 0) hG hw hz hw' hz' (i32eq.mp hc)
        rw [eG] at hA
        exact ht _ hA ρ L st'' hp ⟨hG', hF, h1, h2b, h3⟩
      · have hn : ¬ w'.toInt = (0 : Int32).toInt := fun z => hc (i32eq.mpr z)
        rcases (by omega : w'.toInt < (0 : Int32).toInt ∨ (0 : Int32).toInt < w'.toInt) with hq | hq
        · obtain ⟨G', eG, hG'⟩ := refC_ok (q := 1) hG hw hz hw' hz' hq
          rw [eG] at hB
          exact hf _ hB ρ L st'' hp ⟨hG', hF, h1, h2b, h3⟩
        · obtain ⟨G', eG, hG'⟩ := refC_ok (q := 3) hG hw hz hw' hz' hq
          rw [eG] at hC
          exact hf _ hC ρ L st'' hp ⟨hG', hF, h1, h2b, h3⟩
    · cases h
theorem s_acopy (hk : ∀ σ, K σ = true → Sf τ m0 k σ) (σ : Sg) (h : a_acopy K σ = true) : Sf τ m0 (o_acopy k) σ := by
  intro ρ L st hp hS
  obtain ⟨G, F, La, sa, Ha⟩ := σ
  obtain ⟨hG, hF, h1, h2, h3⟩ := hS
  unfold a_acopy at h
  dsimp only at h
  split at h
  · rename_i n dp a sp a' r
    split at h
    · rename_i t0 n0 lo hi t1 n1 lo' hi' c0 c1
      split at h
      · rename_i x y x1 y1 x2 y2 e1 e2 e3
        simp only [Bool.and_eq_true] at h
        obtain ⟨⟨⟨g1, g2⟩, ⟨g3, g4, g5⟩, g6, g7, g8⟩, g9⟩ := h
        cases Nat.eq_of_beq_eq_true g1
        cases Nat.eq_of_beq_eq_true g2
        have g4 := of_decide_eq_true g4
        have g5 := of_decide_eq_true g5
        have g6 := of_decide_eq_true g6
        have g7 := of_decide_eq_true g7
        have g8 := of_decide_eq_true g8
        obtain ⟨v1, s1, rfl, hv1, h2a⟩ := all2_cons h2
        obtain ⟨v2, s2, rfl, hv2, h2b⟩ := all2_cons h2a
        obtain ⟨v3, s3, rfl, hv3, h2c⟩ := all2_cons h2b
        obtain ⟨v4, s4, rfl, hv4, h2d⟩ := all2_cons h2c
        obtain ⟨v5, s5, rfl, hv5, h2e⟩ := all2_cons h2d
        cases (hv3 : v3 = .inr (some (.inl a)))
        cases (hv5 : v5 = .inr (some (.inl a')))
        obtain ⟨z1, rfl, hz1⟩ := iv_ok hG e1 hv1
        obtain ⟨z2, rfl, hz2⟩ := iv_ok hG e2 hv2
        obtain ⟨z3, rfl, hz3⟩ := iv_ok hG e3 hv4
        obtain ⟨q0, he0, hg0⟩ := all2_nth h3 c0
        obtain ⟨q1, he1, hg1⟩ := all2_nth h3 c1
        rcases q0 with ⟨t', n', f⟩ | ⟨ci', fs'⟩
        · rcases q1 with ⟨t2, n2, g⟩ | ⟨ci', fs'⟩
          · obtain ⟨et, rfl, hf⟩ := hg0
            obtain ⟨et2, rfl, hf2⟩ := hg1
            cases (et : t' = 0)
            cases (et2 : t2 = 0)
            unfold o_acopy
            dsimp only
            rw [he0, he1]
            have e0 : (0 : Int32).toInt = 0 := rfl
            have k1 : z1.toNatClampNeg = z1.toInt.toNat := rfl
            have k2 : z2.toNatClampNeg = z2.toInt.toNat := rfl
            have k3 : z3.toNatClampNeg = z3.toInt.toNat := rfl
            refine ⟨by rw [all2_len h2e]; exact g3, fun q => ?_, fun q => ?_, fun q => ?_, by omega, by omega, ?_⟩
            · have q := Int32.lt_iff_toInt_lt.mp q; omega
            · have q := Int32.lt_iff_toInt_lt.mp q; omega
            · have q := Int32.lt_iff_toInt_lt.mp q; omega
            · have m1 := minI_l lo lo'
              have m2 := minI_r lo lo'
              have m3 := maxI_l hi hi'
              have m4 := maxI_r hi hi'
              refine all2_put (R := gC ρ τ) (a := .inl (0, n2, minI lo lo', maxI hi hi')) (v := .inl (0, n2, va_cpy f g z3.toNatClampNeg z2.toNatClampNeg z1.toNatClampNeg)) ⟨rfl, rfl, fun j hj => ⟨fun hs => ?_, fun e5 => (by cases e5), fun e9 => (by cases e9)⟩⟩ h3 c1 (fun h' hh => hk _ g9 ρ L _ h' ⟨hG, hF, h1, h2e, hh⟩)
              unfold va_cpy
              split
              · have := (hf (z3.toNatClampNeg + (j - z2.toNatClampNeg)) (by omega)).1 rfl
                exact ⟨by omega, by omega⟩
              · have := (hf2 j hj).1 rfl
                exact ⟨by omega, by omega⟩
          · exact hg1.elim
        · exact hg0.elim
      · cases h
    · cases h
  · cases h
theorem s_callL {M : List PV → PH → (Option PV → PH → Prop) → Prop} {C : Con} {cis : List Nat} {n : Nat} (hΦ : Φ τ) (hC : conOk M C) (hk : ∀ σ, K σ = true → Sf τ m0 k σ) (σ : Sg) (h : a_callL C cis n ρs tm K σ = true) : Sf τ m0 (o_callL M cis n ρs k) σ := by
  intro ρ L st hp hS
  obtain ⟨G, F, La, sa, Ha⟩ := σ
  obtain ⟨hG, hF, h1, h2, h3⟩ := hS
  unfold a_callL at h
  dsimp only at h
  split at h
  · rename_i as r epop
    rw [Bool.and_eq_true] at h
    obtain ⟨hA, hB⟩ := h
    rw [Bool.and_eq_true] at hA hB
    obtain ⟨g1, hA⟩ := hA
    rw [Bool.and_eq_true] at hA
    obtain ⟨g2, g3⟩ := hA
    obtain ⟨hB, g6⟩ := hB
    rw [Bool.and_eq_true] at hB
    obtain ⟨g4, g5⟩ := hB
    unfold o_callL
    refine pop_in n sa [] st [] epop h2 trivial (fun as' rest ha hr => ?_)
    have hlen : (Nat.ble rest.length 8 && Nat.ble ρs.length 1000 && Nat.ble hp.length 1000) = true := by rw [all2_len hr, all2_len h3]; exact g2
    have body : (Nat.ble rest.length 8 && Nat.ble ρs.length 1000 && Nat.ble hp.length 1000) = true ∧ va_nd ρs = true ∧ pick ρs hp ρs (fun hc => unL ρs as' (fun as' => ∃ post : Option PV → PH → Prop, M as' hc post ∧ ∀ (r : Option PV) (h' : PH), post r h' → wbK ρs 0 hp.length ρs h' hp (fun h2 => match r with
      | none => k L rest h2
      | some v => reK ρs 0 hp.length v (fun v' => k L (v' :: rest) h2)))) := by
      refine ⟨hlen, g3, pick_in hG h3 g5 (fun hc hhc => ?_)⟩
      rw [unL_eq]
      refine ⟨_, hC (tauC τ tm) (Φ_tau hΦ) (as'.map (un1 ρs)) hc (all2b_map (mA_ok hG) g4 ha) hhc, fun r' h' hpost => ?_⟩
      obtain ⟨q, hq, hret, hh'⟩ := hpost
      obtain ⟨H2, ewb, g6⟩ := altK_mem g6 hq
      refine wb_in ρs q.2 Ha H2 h' hp _ ewb hh' h3 (fun h2' hh2 => ?_)
      unfold gR at hret
      have g6 : K (sH (sS (G, F, La, sa, Ha) (pushR q.1 r)) H2) = true := g6
      split at hret
      · rename_i er
        cases hret
        rw [er] at g6
        exact hk _ g6 ρ L rest h2' ⟨hG, hF, h1, hr, hh2⟩
      · rename_i lo hi er
        obtain ⟨x, rfl, hx⟩ := hret
        rw [er] at g6
        exact hk _ g6 ρ L _ h2' ⟨hG, hF, h1, ⟨⟨x, rfl, hx⟩, hr⟩, hh2⟩
    unfold rcL at g1
    split at g1
    · rename_i a as1
      split at g1
      · rename_i cj fs ecell
        obtain ⟨v, as2, rfl, hv, _⟩ := all2_cons ha
        cases (hv : v = .inr (some (.inl a)))
        obtain ⟨e, he, hge⟩ := all2_nth h3 ecell
        rcases e with ⟨t', n', f⟩ | ⟨ci', fs'⟩
        · exact hge.elim
        · obtain ⟨rfl, _⟩ := hge
          dsimp only
          rw [he]
          dsimp only
          rw [g1]
          exact body
      · cases g1
    · cases g1
  · cases h
end ABS8
