/-! ===== abstract stack, cells, returns ===== -/
theorem all2_setl {α β : Type} {R : α → β → Prop} {a : α} {b : β} (hr : R a b) : ∀ {x : List α} {y : List β} {i : Nat}, all2 R x y → nth y i = some b → all2 R (setl x i a) y
  | [], [], _, _, h => by cases h
  | [], _ :: _, _, h, _ => h.elim
  | _ :: _, [], _, h, _ => h.elim
  | _ :: _, _ :: _, 0, h, e => by cases e; exact ⟨hr, h.2⟩
  | _ :: x, _ :: y, i + 1, h, e => ⟨h.1, all2_setl hr (x := x) (y := y) (i := i) h.2 e⟩
def a_dup (K : Sg → Bool) (σ : Sg) : Bool := match σ.2.2.2.1 with
  | a :: r => frs (sS σ r) a (fun σ' a' => K (sS σ' (a' :: a' :: r)))
  | _ => false
def a_dup2 (K : Sg → Bool) (σ : Sg) : Bool := match σ.2.2.2.1 with
  | a :: b :: r => K (sS σ (a :: b :: a :: b :: r))
  | _ => false
def a_dupx1 (K : Sg → Bool) (σ : Sg) : Bool := match σ.2.2.2.1 with
  | a :: b :: r => frs (sS σ (b :: r)) a (fun σ' a' => K (sS σ' (a' :: b :: a' :: r)))
  | _ => false
def a_pop (K : Sg → Bool) (σ : Sg) : Bool := match σ.2.2.2.1 with
  | _ :: r => K (sS σ r)
  | _ => false
def a_getf (cis : List Nat) (j : Nat) (K : Sg → Bool) (σ : Sg) : Bool := match σ.2.2.2.1 with
  | .inr (.inr (some (.inl a))) :: r => match nth σ.2.2.2.2 a with
    | some (.inr (ci, fs)) => match nth fs j with
      | some v => cis.contains ci && frs (sS σ r) v (fun σ' v' => K (sH (sS σ' (v' :: r)) (setl σ'.2.2.2.2 a (.inr (ci, setl fs j v')))))
      | none => false
    | _ => false
  | _ => false
def fitA (ty : Nat) (G : List (Int × Int)) (v : AV) : Bool := match ty with
  | 0 => match iv G v with
    | some _ => true
    | none => false
  | 1 => match iv G v with
    | some (lo, hi) => ile 0 lo && ile hi 1
    | none => false
  | 2 => isR v
  | _ => false
def a_putf (cis : List Nat) (j ty : Nat) (K : Sg → Bool) (σ : Sg) : Bool := match σ.2.2.2.1 with
  | v :: .inr (.inr (some (.inl a))) :: r => match nth σ.2.2.2.2 a with
    | some (.inr (ci, fs)) => match nth fs j with
      | some _ => (cis.contains ci && fitA ty σ.1 v) && frs (sS σ r) v (fun σ' v' => K (sH σ' (setl σ'.2.2.2.2 a (.inr (ci, setl fs j v')))))
      | none => false
    | _ => false
  | _ => false
def rdA (t : Nat) (lo hi x y : Int) : AV := match t with
  | 3 => match ile 8 x && ile y 15 with
    | true => .inl (lo, hi)
    | false => topA
  | 5 => topA
  | t => match Nat.ble 10 t with
    | true => (match Nat.ble 1000 t with
      | true => .inl (lo, hi)
      | false => match Nat.ble 700 t with
        | true => (match ieq x y && ieq (x + 700) t with
          | true => .inl (lo, hi)
          | false => topA)
        | false => match Nat.ble 600 t with
          | true => (match ile 8 x && ile y 15 with
            | true => .inl (lo, hi)
            | false => topA)
          | false => match ieq x y && ieq (x + 2) t with
            | true => .inl (lo, hi)
            | false => match ile 8 x && ile y 15 with
              | true => .inl (0, 383)
              | false => topA)
    | false => .inl (lo, hi)
def a_ald (ts : List Nat) (K : Sg → Bool) (σ : Sg) : Bool := match σ.2.2.2.1 with
  | i :: .inr (.inr (some (.inl a))) :: r => match nth σ.2.2.2.2 a, iv σ.1 i with
    | some (.inl (t, n, lo, hi)), some (x, y) => (ts.contains (kk t) && (ile 0 x && ile (y + 1) n)) && K (sS σ (rdA t lo hi x y :: r))
    | _, _ => false
  | _ => false
def minI (a b : Int) : Int := match ile a b with
  | true => a
  | false => b
def maxI (a b : Int) : Int := match ile a b with
  | true => b
  | false => a
theorem minI_l (a b : Int) : minI a b ≤ a := by
  unfold minI; split
  · omega
  · rename_i h; have := of_decide_eq_false h; omega
theorem minI_r (a b : Int) : minI a b ≤ b := by
  unfold minI; split
  · rename_i h; have := of_decide_eq_true h; omega
  · omega
theorem maxI_l (a b : Int) : a ≤ maxI a b := by
  unfold maxI; split
  · rename_i h; have := of_decide_eq_true h; omega
  · omega
theorem maxI_r (a b : Int) : b ≤ maxI a b := by
  unfold maxI; split
  · omega
  · rename_i h; have := of_decide_eq_false h; omega
def wrA (t n : Nat) (lo hi c d x y : Int) : AC := match t with
  | 3 => match ile (y + 1) 8 || ile 16 x with
    | true => .inl (3, n, lo, hi)
    | false => .inl (3, n, minI lo c, maxI hi d)
  | t => match Nat.ble 10 t with
    | true => (match Nat.ble 700 t with
      | true => .inl (t, n, lo, hi)
      | false => match Nat.ble 600 t with
        | true => (match ile (y + 1) 8 || ile 16 x with
          | true => .inl (t, n, lo, hi)
          | false => .inl (t, n, minI lo c, maxI hi d))
        | false => match ile (y + 1) 8 || ile 16 x with
          | true => .inl (t, n, lo, hi)
          | false => .inl (t, n, c, d))
    | false => .inl (t, n, minI lo c, maxI hi d)
def okW (t : Nat) (c d x y : Int) : Bool := match Nat.ble 10 t with
  | true => (match Nat.ble 700 t with
    | true => Nat.ble t 999 && (ile 0 x && (ile (y + 701) t || ile (t + 1) (x + 700)))
    | false => match Nat.ble 600 t with
      | true => ile 0 x && (ile (y + 1) 128 || ile 129 x)
      | false => Nat.ble t 17 && ((ile (y + 1) 8 || ile 16 x) || ((ieq x y && ieq (x + 2) t) && (ile 0 c && ile d 383))))
  | false => true
theorem nar1 {x : Int32} (h1 : -128 ≤ x.toInt) (h2 : x.toInt ≤ 127) : f_nar 1 x = x := by
  have e : f_nar 1 x = x.toInt8.toInt32 := rfl
  rw [e]
  apply Int32.toInt_inj.mp
  rw [Int8.toInt_toInt32, Int32.toInt_toInt8]
  exact Int.bmod_eq_of_le (by omega) (by omega)
/-- an int array's store; a boolean array's store of 0 or 1 -/
def a_ast (ts : List Nat) (K : Sg → Bool) (σ : Sg) : Bool := match σ.2.2.2.1 with
  | v :: i :: .inr (.inr (some (.inl a))) :: r => match nth σ.2.2.2.2 a, iv σ.1 i, iv σ.1 v with
    | some (.inl (t, n, lo, hi)), some (x, y), some (c, d) => (((!Nat.beq t 5 && okW t c d x y) && ts.contains (kk t) && (Nat.beq (kk t) 0 || (Nat.beq (kk t) 2 && (ile 0 c && ile d 1)) || (Nat.beq (kk t) 1 && (ile (-128) c && ile d 127)))) && (ile 0 x && ile (y + 1) n)) && K (sH (sS σ r) (setl σ.2.2.2.2 a (wrA t n lo hi c d x y)))
    | _, _, _ => false
  | _ => false
def a_alen (K : Sg → Bool) (σ : Sg) : Bool := match σ.2.2.2.1 with
  | .inr (.inr (some (.inl a))) :: r => match nth σ.2.2.2.2 a with
    | some (.inl (t, n, _, _)) => (Nat.blt (kk t) 3 && Nat.ble n 2147483647) && K (sS σ (.inl (n, n) :: r))
    | _ => false
  | _ => false
theorem nar2 {x : Int32} (h1 : 0 ≤ x.toInt) (h2 : x.toInt ≤ 1) : f_nar 2 x = x := by
  have h : x = 0 ∨ x = 1 := by
    rcases (by omega : x.toInt = 0 ∨ x.toInt = 1) with h | h
    · exact Or.inl (i32eq.mpr h)
    · exact Or.inr (i32eq.mpr h)
  rcases h with rfl | rfl <;> decide +kernel
section ABS3
variable {ρ : Nat → Int} {τ : Nat → List (Option Nat)} {m0 : Int} {K Kt Kf : Sg → Bool} {k kt kf : Blk} {G : List (Int × Int)}
theorem s_dup (hk : ∀ σ, K σ = true → Sf τ m0 k σ) (σ : Sg) (h : a_dup K σ = true) : Sf τ m0 (o_dup k) σ := by
  intro ρ L st hp hS
  obtain ⟨G, F, La, sa, Ha⟩ := σ
  obtain ⟨hG, hF, h1, h2, h3⟩ := hS
  rcases sa with _ | ⟨a, r⟩
  · cases h
  · obtain ⟨v, st', rfl, hv, h2a⟩ := all2_cons h2
    obtain ⟨ρ', G', a', hk', ⟨hG, hF, h1, h2, h3⟩, hv⟩ := frs_ok (σ := sS (G, F, La, a :: r, Ha) r) (L := L) (st := st') (h := hp) (k := fun σ' a' => K (sS σ' (a' :: a' :: r))) ⟨hG, hF, h1, h2a, h3⟩ hv h
    exact hk _ hk' ρ' L _ hp ⟨hG, hF, h1, ⟨hv, hv, h2⟩, h3⟩
theorem s_dup2 (hk : ∀ σ, K σ = true → Sf τ m0 k σ) (σ : Sg) (h : a_dup2 K σ = true) : Sf τ m0 (o_dup2 k) σ := by
  intro ρ L st hp hS
  obtain ⟨G, F, La, sa, Ha⟩ := σ
  obtain ⟨hG, hF, h1, h2, h3⟩ := hS
  rcases sa with _ | ⟨a, _ | ⟨b, r⟩⟩
  · cases h
  · cases h
  · obtain ⟨v, st', rfl, hv, h2a⟩ := all2_cons h2
    obtain ⟨w, st'', rfl, hw, h2b⟩ := all2_cons h2a
    exact hk _ h ρ L _ hp ⟨hG, hF, h1, ⟨hv, hw, hv, hw, h2b⟩, h3⟩
theorem s_dupx1 (hk : ∀ σ, K σ = true → Sf τ m0 k σ) (σ : Sg) (h : a_dupx1 K σ = true) : Sf τ m0 (o_dupx1 k) σ := by
  intro ρ L st hp hS
  obtain ⟨G, F, La, sa, Ha⟩ := σ
  obtain ⟨hG, hF, h1, h2, h3⟩ := hS
  rcases sa with _ | ⟨a, _ | ⟨b, r⟩⟩
  · cases h
  · cases h
  · obtain ⟨v, st', rfl, hv, h2a⟩ := all2_cons h2
    obtain ⟨ρ', G', a', hk', ⟨hG, hF, h1, h2, h3⟩, hv⟩ := frs_ok (σ := sS (G, F, La, a :: b :: r, Ha) (b :: r)) (L := L) (st := st') (h := hp) (k := fun σ' a' => K (sS σ' (a' :: b :: a' :: r))) ⟨hG, hF, h1, h2a, h3⟩ hv h
    obtain ⟨w, st'', rfl, hw, h2b⟩ := all2_cons h2
    exact hk _ hk' ρ' L _ hp ⟨hG, hF, h1, ⟨hv, hw, hv, h2b⟩, h3⟩
theorem s_pop (hk : ∀ σ, K σ = true → Sf τ m0 k σ) (σ : Sg) (h : a_pop K σ = true) : Sf τ m0 (o_pop k) σ := by
  intro ρ L st hp hS
  obtain ⟨G, F, La, sa, Ha⟩ := σ
  obtain ⟨hG, hF, h1, h2, h3⟩ := hS
  rcases sa with _ | ⟨a, r⟩
  · cases h
  · obtain ⟨v, st', rfl, hv, h2a⟩ := all2_cons h2
    exact hk _ h ρ L _ hp ⟨hG, hF, h1, h2a, h3⟩
theorem s_getf {cis : List Nat} {j : Nat} (hk : ∀ σ, K σ = true → Sf τ m0 k σ) (σ : Sg) (h : a_getf cis j K σ = true) : Sf τ m0 (o_getf cis j k) σ := by
  intro ρ L st hp hS
  obtain ⟨G, F, La, sa, Ha⟩ := σ
  obtain ⟨hG, hF, h1, h2, h3⟩ := hS
  rcases sa with _ | ⟨⟨lo, hi⟩ | ⟨kk, d⟩ | _ | a | t, r⟩
  · cases h
  · cases h
  · cases h
  · cases h
  · unfold a_getf at h
    dsimp only at h
    split at h
    · rename_i ci fs hc
      split at h
      · rename_i va hva
        rw [Bool.and_eq_true] at h
        obtain ⟨v, st', rfl, hv, h2a⟩ := all2_cons h2
        cases (hv : v = .inr (some (.inl a)))
        obtain ⟨e, he, hge⟩ := all2_nth h3 hc
        rcases e with ⟨t', n', f⟩ | ⟨ci', fs'⟩
        · exact hge.elim
        · obtain ⟨rfl, hfs⟩ := hge
          obtain ⟨w, hw, hgw⟩ := all2_nth hfs hva
          obtain ⟨ρ', G', a', hk', ⟨hG, hF, h1, h2, h3'⟩, hgw'⟩ := frs_ok (σ := sS (G, F, La, .inr (.inr (some (.inl a))) :: r, Ha) r) (L := L) (st := st') (h := hp) ⟨hG, hF, h1, h2a, h3⟩ hgw h.2
          obtain ⟨e2, he2, hge2⟩ := all2_nth h3' hc
          rw [he] at he2
          cases he2
          unfold o_getf
          dsimp only
          rw [he]
          dsimp only
          rw [h.1]
          dsimp only
          rw [hw]
          exact hk _ hk' ρ' L _ hp ⟨hG, hF, h1, ⟨hgw', h2⟩, all2_setl (R := gC ρ' τ) (a := .inr (ci', setl fs j a')) (b := .inr (ci', fs')) ⟨rfl, all2_setl hgw' hge2.2 hw⟩ h3' he⟩
      · cases h
    · cases h
  · cases h
theorem sel_6 {t i : Nat} (h6 : Nat.ble 600 t = true) (h7 : Nat.ble 700 t = false) : sel t i = (Nat.ble 8 i && Nat.ble i 15) := by
  have h1 := Nat.ble_eq.mp h6
  unfold sel
  split
  · omega
  · omega
  · rw [show Nat.ble 10 t = true from Nat.ble_eq.mpr (by omega)]
    show (match Nat.ble 1000 t with
      | true => true
      | false => match Nat.ble 700 t with
        | true => Nat.beq (i + 700) t
        | false => match Nat.ble 600 t with
          | true => Nat.ble 8 i && Nat.ble i 15
          | false => Nat.beq (i + 2) t) = _
    rw [ble7 h7]
    show (match Nat.ble 700 t with
        | true => Nat.beq (i + 700) t
        | false => match Nat.ble 600 t with
          | true => Nat.ble 8 i && Nat.ble i 15
          | false => Nat.beq (i + 2) t) = _
    rw [h7]
    show (match Nat.ble 600 t with
          | true => Nat.ble 8 i && Nat.ble i 15
          | false => Nat.beq (i + 2) t) = _
    rw [h6]
theorem kk_6 {t : Nat} (h6 : Nat.ble 600 t = true) (h7 : Nat.ble 700 t = false) : kk t = 0 := by
  have h1 := Nat.ble_eq.mp h6
  unfold kk
  split
  · rfl
  · rfl
  · rw [show Nat.ble 10 t = true from Nat.ble_eq.mpr (by omega)]
    show (match Nat.ble 1000 t with
      | true => t % 4
      | false => 0) = 0
    rw [ble7 h7]
theorem rdA_ok {t n : Nat} {lo hi x y : Int} {f : Nat → Int32} {z : Int32} (hf : ∀ i, i < n → (sel t i = true → lo ≤ (f i).toInt ∧ (f i).toInt ≤ hi) ∧ (t = 5 → f i = decA (τ lo.toNat) i) ∧ (Nat.ble 10 t = true → g3 τ t i (f i))) (hz : x ≤ z.toInt ∧ z.toInt ≤ y) (hlt : z.toNatClampNeg < n) : gV ρ τ (rdA t lo hi x y) (.inl (f z.toNatClampNeg)) := by
  unfold rdA
  split
  · split
    · rename_i h
      rw [Bool.and_eq_true] at h
      have g1 := of_decide_eq_true h.1
      have g2 := of_decide_eq_true h.2
      have e : z.toNatClampNeg = z.toInt.toNat := rfl
      exact ⟨_, rfl, (hf _ hlt).1 (by
        show (Nat.ble 8 _ && Nat.ble _ 15) = true
        rw [Bool.and_eq_true]
        exact ⟨Nat.ble_eq.mpr (by omega), Nat.ble_eq.mpr (by omega)⟩)⟩
    · exact topA_ok _
  · exact topA_ok _
  · rename_i h h'
    split
    · rename_i ht
      split
      · rename_i hk
        refine ⟨_, rfl, (hf _ hlt).1 ?_⟩
        unfold sel
        split
        · exact absurd rfl h
        · exact absurd rfl h'
        · rw [ht]
          show (match Nat.ble 1000 t with
            | true => true
            | false => match Nat.ble 700 t with
              | true => Nat.beq (z.toNatClampNeg + 700) t
              | false => match Nat.ble 600 t with
                | true => Nat.ble 8 z.toNatClampNeg && Nat.ble z.toNatClampNeg 15
                | false => Nat.beq (z.toNatClampNeg + 2) t) = true
          rw [hk]
      · rename_i hk
        split
        · rename_i h7
          split
          · rename_i hx
            rw [Bool.and_eq_true] at hx
            have q1 := of_decide_eq_true hx.1
            have q2 := of_decide_eq_true hx.2
            have e : z.toNatClampNeg = z.toInt.toNat := rfl
            refine ⟨_, rfl, (hf _ hlt).1 ?_⟩
            unfold sel
            split
            · exact absurd rfl h
            · exact absurd rfl h'
            · rw [ht]
              show (match Nat.ble 1000 t with
                | true => true
                | false => match Nat.ble 700 t with
                  | true => Nat.beq (z.toNatClampNeg + 700) t
                  | false => match Nat.ble 600 t with
                    | true => Nat.ble 8 z.toNatClampNeg && Nat.ble z.toNatClampNeg 15
                    | false => Nat.beq (z.toNatClampNeg + 2) t) = true
              rw [hk]
              show (match Nat.ble 700 t with
                | true => Nat.beq (z.toNatClampNeg + 700) t
                | false => match Nat.ble 600 t with
                  | true => Nat.ble 8 z.toNatClampNeg && Nat.ble z.toNatClampNeg 15
                  | false => Nat.beq (z.toNatClampNeg + 2) t) = true
              rw [h7]
              show Nat.beq (z.toNatClampNeg + 700) t = true
              have h8 := Nat.ble_eq.mp h7
              rw [show z.toNatClampNeg + 700 = t by omega]
              exact Nat.beq_refl t
          · exact topA_ok _
        · rename_i h7
          cases h6 : Nat.ble 600 t
          rotate_left
          · dsimp only
            split
            · rename_i hx
              rw [Bool.and_eq_true] at hx
              have q1 := of_decide_eq_true hx.1
              have q2 := of_decide_eq_true hx.2
              have e : z.toNatClampNeg = z.toInt.toNat := rfl
              refine ⟨_, rfl, (hf _ hlt).1 ?_⟩
              rw [sel_6 h6 h7, Bool.and_eq_true]
              exact ⟨Nat.ble_eq.mpr (by omega), Nat.ble_eq.mpr (by omega)⟩
            · exact topA_ok _
          dsimp only
          split
          · rename_i hx
            rw [Bool.and_eq_true] at hx
            have q1 := of_decide_eq_true hx.1
            have q2 := of_decide_eq_true hx.2
            have e : z.toNatClampNeg = z.toInt.toNat := rfl
            have ht' := Nat.ble_eq.mp ht
            refine ⟨_, rfl, (hf _ hlt).1 ?_⟩
            unfold sel
            split
            · exact absurd rfl h
            · exact absurd rfl h'
            · rw [ht]
              show (match Nat.ble 1000 t with
                | true => true
                | false => match Nat.ble 700 t with
                  | true => Nat.beq (z.toNatClampNeg + 700) t
                  | false => match Nat.ble 600 t with
                    | true => Nat.ble 8 z.toNatClampNeg && Nat.ble z.toNatClampNeg 15
                    | false => Nat.beq (z.toNatClampNeg + 2) t) = true
              rw [hk]
              show (match Nat.ble 700 t with
                | true => Nat.beq (z.toNatClampNeg + 700) t
                | false => match Nat.ble 600 t with
                  | true => Nat.ble 8 z.toNatClampNeg && Nat.ble z.toNatClampNeg 15
                  | false => Nat.beq (z.toNatClampNeg + 2) t) = true
              rw [h7]
              show (match Nat.ble 600 t with
                | true => Nat.ble 8 z.toNatClampNeg && Nat.ble z.toNatClampNeg 15
                | false => Nat.beq (z.toNatClampNeg + 2) t) = true
              rw [h6]
              show Nat.beq (z.toNatClampNeg + 2) t = true
              rw [show z.toNatClampNeg + 2 = t by omega]
              exact Nat.beq_refl t
          · split
            · rename_i hx
              rw [Bool.and_eq_true] at hx
              have q1 := of_decide_eq_true hx.1
              have q2 := of_decide_eq_true hx.2
              have e : z.toNatClampNeg = z.toInt.toNat := rfl
              exact ⟨_, rfl, g3_p h7 h6 ((hf _ hlt).2.2 ht) (by omega) (by omega)⟩
            · exact topA_ok _
    · rename_i ht
      refine ⟨_, rfl, (hf _ hlt).1 ?_⟩
      unfold sel
      split
      · exact absurd rfl h
      · exact absurd rfl h'
      · rw [ht]
theorem wrA_ok {t n : Nat} {lo hi c d x y : Int} {f : Nat → Int32} {z s : Int32} (h5 : Nat.beq t 5 = false) (hw : okW t c d x y = true) (hf : ∀ i, i < n → (sel t i = true → lo ≤ (f i).toInt ∧ (f i).toInt ≤ hi) ∧ (t = 5 → f i = decA (τ lo.toNat) i) ∧ (Nat.ble 10 t = true → g3 τ t i (f i))) (hz : x ≤ z.toInt ∧ z.toInt ≤ y) (hs : c ≤ s.toInt ∧ s.toInt ≤ d) : gC ρ τ (wrA t n lo hi c d x y) (.inl (kk t, n, upd f z.toNatClampNeg s)) := by
  have m1 := minI_l lo c
  have m2 := minI_r lo c
  have m3 := maxI_l hi d
  have m4 := maxI_r hi d
  unfold wrA
  split
  · split
    · rename_i h
      rw [Bool.or_eq_true] at h
      refine ⟨rfl, rfl, fun j hj => ⟨fun hs' => ?_, fun e5 => (by cases e5), fun e9 => (by cases e9)⟩⟩
      have hs2 : (Nat.ble 8 j && Nat.ble j 15) = true := hs'
      rw [Bool.and_eq_true] at hs2
      have q1 := Nat.ble_eq.mp hs2.1
      have q2 := Nat.ble_eq.mp hs2.2
      have e : z.toNatClampNeg = z.toInt.toNat := rfl
      unfold upd
      split
      · rename_i ej
        exfalso
        rcases h with h | h
        · have h := of_decide_eq_true h; omega
        · have h := of_decide_eq_true h; omega
      · exact (hf j hj).1 hs'
    · refine ⟨rfl, rfl, fun j hj => ⟨fun hs' => ?_, fun e5 => (by cases e5), fun e9 => (by cases e9)⟩⟩
      unfold upd
      split
      · exact ⟨by omega, by omega⟩
      · have := (hf j hj).1 hs'
        exact ⟨by omega, by omega⟩
  · rename_i h3
    have e : z.toNatClampNeg = z.toInt.toNat := rfl
    split
    · rename_i ht
      unfold okW at hw
      rw [ht] at hw
      dsimp only at hw
      cases hk : Nat.ble 700 t
      rotate_left
      · rw [hk] at hw
        dsimp only at hw
        rw [Bool.and_eq_true, Bool.and_eq_true, Bool.or_eq_true] at hw
        have h9 := Nat.ble_eq.mp hw.1
        have hx0 := of_decide_eq_true hw.2.1
        have hk0 : Nat.ble 1000 t = false := by
          cases hb : Nat.ble 1000 t
          · rfl
          · have := Nat.ble_eq.mp hb
            omega
        have st : ∀ j, sel t j = true → j + 700 = t := by
          intro j hj
          unfold sel at hj
          split at hj
          · exact absurd rfl h3
          · cases hj
          · rw [ht] at hj
            have hj : (match Nat.ble 1000 t with
              | true => true
              | false => match Nat.ble 700 t with
                | true => Nat.beq (j + 700) t
                | false => match Nat.ble 600 t with
                  | true => Nat.ble 8 j && Nat.ble j 15
                  | false => Nat.beq (j + 2) t) = true := hj
            rw [hk0] at hj
            have hj : (match Nat.ble 700 t with
                | true => Nat.beq (j + 700) t
                | false => match Nat.ble 600 t with
                  | true => Nat.ble 8 j && Nat.ble j 15
                  | false => Nat.beq (j + 2) t) = true := hj
            rw [hk] at hj
            exact Nat.eq_of_beq_eq_true hj
        refine ⟨rfl, rfl, fun j hj => ⟨fun hs' => ?_, fun e5 => (by subst e5; cases h5), fun e9 => g3_m hk0 hk⟩⟩
        have q := st j hs'
        unfold upd
        split
        · exfalso
          rcases hw.2.2 with hw | hw
          · have hw := of_decide_eq_true hw
            omega
          · have hw := of_decide_eq_true hw
            omega
        · exact (hf j hj).1 hs'
      rw [hk] at hw
      dsimp only at hw ⊢
      cases h6 : Nat.ble 600 t
      rotate_left
      · rw [h6] at hw
        dsimp only at hw ⊢
        rw [Bool.and_eq_true, Bool.or_eq_true] at hw
        have hx0 := of_decide_eq_true hw.1
        have n128 : ¬ 128 = z.toNatClampNeg := fun q => by
          rcases hw.2 with hw | hw
          · have hw := of_decide_eq_true hw
            omega
          · have hw := of_decide_eq_true hw
            omega
        have g3k : ∀ j, j < n → Nat.ble 10 t = true → g3 τ t j (upd f z.toNatClampNeg s j) := fun j hj e9 => g3_dm hk h6 (fun ej => by
          subst ej
          unfold upd
          rw [if_neg n128]
          exact g3_d hk h6 ((hf 128 hj).2.2 e9) rfl)
        split
        · rename_i hq
          refine ⟨rfl, rfl, fun j hj => ⟨fun hs' => ?_, fun e5 => (by subst e5; cases h5), fun e9 => g3k j hj e9⟩⟩
          have q := hs'
          rw [sel_6 h6 hk, Bool.and_eq_true] at q
          have q1 := Nat.ble_eq.mp q.1
          have q2 := Nat.ble_eq.mp q.2
          unfold upd
          split
          · exfalso
            rw [Bool.or_eq_true] at hq
            rcases hq with hq | hq
            · have hq := of_decide_eq_true hq
              omega
            · have hq := of_decide_eq_true hq
              omega
          · exact (hf j hj).1 hs'
        · refine ⟨rfl, rfl, fun j hj => ⟨fun hs' => ?_, fun e5 => (by subst e5; cases h5), fun e9 => g3k j hj e9⟩⟩
          unfold upd
          split
          · exact ⟨by omega, by omega⟩
          · have := (hf j hj).1 hs'
            exact ⟨by omega, by omega⟩
      rw [h6] at hw
      dsimp only at hw ⊢
      rw [Bool.and_eq_true] at hw
      have h17 := Nat.ble_eq.mp hw.1
      have hw := hw.2
      have st : ∀ j, sel t j = true → j + 2 = t := by
        intro j hj
        unfold sel at hj
        split at hj
        · exact absurd rfl h3
        · cases hj
        · rw [ht] at hj
          have hj : (match Nat.ble 1000 t with
            | true => true
            | false => match Nat.ble 700 t with
              | true => Nat.beq (j + 700) t
              | false => match Nat.ble 600 t with
                | true => Nat.ble 8 j && Nat.ble j 15
                | false => Nat.beq (j + 2) t) = true := hj
          rw [ble7 hk] at hj
          have hj : (match Nat.ble 700 t with
              | true => Nat.beq (j + 700) t
              | false => match Nat.ble 600 t with
                | true => Nat.ble 8 j && Nat.ble j 15
                | false => Nat.beq (j + 2) t) = true := hj
          rw [hk] at hj
          have hj : (match Nat.ble 600 t with
              | true => Nat.ble 8 j && Nat.ble j 15
              | false => Nat.beq (j + 2) t) = true := hj
          rw [h6] at hj
          exact Nat.eq_of_beq_eq_true hj
      split
      · rename_i hq
        have hq : ¬ (8 ≤ z.toNatClampNeg ∧ z.toNatClampNeg ≤ 15) := by
          rw [Bool.or_eq_true] at hq
          rcases hq with hq | hq
          · have hq := of_decide_eq_true hq; omega
          · have hq := of_decide_eq_true hq; omega
        refine ⟨rfl, rfl, fun j hj => ⟨fun hs' => ?_, fun e5 => (by subst e5; cases h5), fun e9 => g3_q hk h6 (fun k1 k2 => ?_)⟩⟩
        · unfold upd
          split
          · rename_i ej
            have := st j hs'
            exfalso
            have ht' := Nat.ble_eq.mp ht
            omega
          · exact (hf j hj).1 hs'
        · unfold upd
          split
          · exact absurd ⟨by omega, by omega⟩ hq
          · exact g3_p hk h6 ((hf j hj).2.2 e9) k1 k2
      · rename_i hq
        rw [hq, Bool.false_or, Bool.and_eq_true, Bool.and_eq_true, Bool.and_eq_true] at hw
        obtain ⟨⟨q1, q2⟩, q3, q4⟩ := hw
        have q1 := of_decide_eq_true q1
        have q2 := of_decide_eq_true q2
        have q3 := of_decide_eq_true q3
        have q4 := of_decide_eq_true q4
        refine ⟨rfl, rfl, fun j hj => ⟨fun hs' => ?_, fun e5 => (by subst e5; cases h5), fun e9 => g3_q hk h6 (fun k1 k2 => ?_)⟩⟩
        · have := st j hs'
          unfold upd
          split
          · exact ⟨by omega, by omega⟩
          · rename_i ej
            exact absurd (by omega) ej
        · unfold upd
          split
          · exact ⟨by omega, by omega⟩
          · exact g3_p hk h6 ((hf j hj).2.2 e9) k1 k2
    · rename_i ht
      refine ⟨rfl, rfl, fun j hj => ⟨fun hs' => ?_, fun e5 => (by subst e5; cases h5), fun e9 => (by rw [ht] at e9; cases e9)⟩⟩
      unfold upd
      split
      · exact ⟨by omega, by omega⟩
      · have := (hf j hj).1 hs'
        exact ⟨by omega, by omega⟩
theorem s_ald {ts : List Nat} (hk : ∀ σ, K σ = true → Sf τ m0 k σ) (σ : Sg) (h : a_ald ts K σ = true) : Sf τ m0 (o_ald ts k) σ := by
  intro ρ L st hp hS
  obtain ⟨G, F, La, sa, Ha⟩ := σ
  obtain ⟨hG, hF, h1, h2, h3⟩ := hS
  rcases sa with _ | ⟨i, _ | ⟨⟨lo, hi⟩ | ⟨kk, d⟩ | _ | a | t, r⟩⟩
  · cases h
  · cases h
  · cases h
  · cases h
  · cases h
  · unfold a_ald at h
    dsimp only at h
    split at h
    · rename_i t n lo hi x y hc hi'
      rw [Bool.and_eq_true, Bool.and_eq_true, Bool.and_eq_true] at h
      obtain ⟨⟨g1, g2, g3⟩, g4⟩ := h
      have g2 := of_decide_eq_true g2
      have g3 := of_decide_eq_true g3
      obtain ⟨v, st', rfl, hv, h2a⟩ := all2_cons h2
      obtain ⟨w, st'', rfl, hw, h2b⟩ := all2_cons h2a
      cases (hw : w = .inr (some (.inl a)))
      obtain ⟨z, rfl, hz⟩ := iv_ok hG hi' hv
      obtain ⟨e, he, hge⟩ := all2_nth h3 hc
      rcases e with ⟨t', n', f⟩ | ⟨ci', fs'⟩
      · obtain ⟨rfl, rfl, hf⟩ := hge
        unfold o_ald
        dsimp only
        rw [he]
        dsimp only
        rw [g1]
        have hin : vp_in z n' := vp_in_iff.mpr ⟨by omega, by omega⟩
        have hlt : z.toNatClampNeg < n' := Nat.not_le.mp fun q => hin (Or.inr q)
        exact And.intro hin (hk _ g4 ρ L _ hp ⟨hG, hF, h1, ⟨rdA_ok hf hz hlt, h2b⟩, h3⟩)
      · exact hge.elim
    · cases h
  · cases h
theorem s_ast {ts : List Nat} (hk : ∀ σ, K σ = true → Sf τ m0 k σ) (σ : Sg) (h : a_ast ts K σ = true) : Sf τ m0 (o_ast ts k) σ := by
  intro ρ L st hp hS
  obtain ⟨G, F, La, sa, Ha⟩ := σ
  obtain ⟨hG, hF, h1, h2, h3⟩ := hS
  rcases sa with _ | ⟨q, _ | ⟨i, _ | ⟨⟨lo, hi⟩ | ⟨kk, d⟩ | _ | a | t, r⟩⟩⟩
  · cases h
  · cases h
  · cases h
  · cases h
  · cases h
  · cases h
  · unfold a_ast at h
    dsimp only at h
    split at h
    · rename_i t n lo hi x y c d hc hi' hq
      simp only [Bool.and_eq_true, Bool.or_eq_true, Bool.not_eq_true'] at h
      obtain ⟨⟨⟨⟨⟨g0, gw⟩, g1⟩, g5⟩, g2, g3⟩, g4⟩ := h
      have g2 := of_decide_eq_true g2
      have g3 := of_decide_eq_true g3
      obtain ⟨u, st0, rfl, hu, h20⟩ := all2_cons h2
      obtain ⟨v, st', rfl, hv, h2a⟩ := all2_cons h20
      obtain ⟨w, st'', rfl, hw, h2b⟩ := all2_cons h2a
      cases (hw : w = .inr (some (.inl a)))
      obtain ⟨z, rfl, hz⟩ := iv_ok hG hi' hv
      obtain ⟨s, rfl, hs⟩ := iv_ok hG hq hu
      obtain ⟨e, he, hge⟩ := all2_nth h3 hc
      rcases e with ⟨t', n', f⟩ | ⟨ci', fs'⟩
      · obtain ⟨rfl, rfl, hf⟩ := hge
        unfold o_ast
        dsimp only
        rw [he]
        dsimp only
        rw [g1]
        have hin : vp_in z n' := vp_in_iff.mpr ⟨by omega, by omega⟩
        have hnar : f_nar (kk t) s = s := by
          rcases g5 with (g5 | ⟨g5, g6, g7⟩) | ⟨g5, g6, g7⟩
          · rw [Nat.eq_of_beq_eq_true g5]; rfl
          · rw [Nat.eq_of_beq_eq_true g5]
            have g6 := of_decide_eq_true g6
            have g7 := of_decide_eq_true g7
            exact nar2 (by omega) (by omega)
          · rw [Nat.eq_of_beq_eq_true g5]
            have g6 := of_decide_eq_true g6
            have g7 := of_decide_eq_true g7
            exact nar1 (by omega) (by omega)
        rw [hnar]
        refine And.intro hin ?_
        exact all2_put (R := gC ρ τ) (a := wrA t n' lo hi c d x y) (v := .inl (kk t, n', upd f z.toNatClampNeg s)) (wrA_ok g0 gw hf hz hs) h3 hc (fun h' hh => hk _ g4 ρ L _ h' ⟨hG, hF, h1, h2b, hh⟩)
      · exact hge.elim
    · cases h
  · cases h
theorem s_putf {cis : List Nat} {j ty : Nat} (hk : ∀ σ, K σ = true → Sf τ m0 k σ) (σ : Sg) (h : a_putf cis j ty K σ = true) : Sf τ m0 (o_putf cis j ty k) σ := by
  intro ρ L st hp hS
  obtain ⟨G, F, La, sa, Ha⟩ := σ
  obtain ⟨hG, hF, h1, h2, h3⟩ := hS
  rcases sa with _ | ⟨q, _ | ⟨⟨lo, hi⟩ | ⟨kk, d⟩ | _ | a | t, r⟩⟩
  · cases h
  · cases h
  · cases h
  · cases h
  · cases h
  · unfold a_putf at h
    dsimp only at h
    split at h
    · rename_i ci fs hc
      split at h
      · rename_i va hva
        rw [Bool.and_eq_true, Bool.and_eq_true] at h
        obtain ⟨⟨g1, g2⟩, h⟩ := h
        obtain ⟨u, st0, rfl, hu, h20⟩ := all2_cons h2
        obtain ⟨v, st', rfl, hv, h2a⟩ := all2_cons h20
        cases (hv : v = .inr (some (.inl a)))
        obtain ⟨e, he, hge⟩ := all2_nth h3 hc
        rcases e with ⟨t', n', f⟩ | ⟨ci', fs'⟩
        · exact hge.elim
        · obtain ⟨rfl, hfs⟩ := hge
          obtain ⟨ρ', G', a', hk', ⟨hG', hF', h1', h2', h3'⟩, hu'⟩ := frs_ok (σ := sS (G, F, La, q :: .inr (.inr (some (.inl a))) :: r, Ha) r) (L := L) (st := st') (h := hp) ⟨hG, hF, h1, h2a, h3⟩ hu h
          obtain ⟨e2, he2, hge2⟩ := all2_nth h3' hc
          rw [he] at he2
          cases he2
          unfold o_putf
          dsimp only
          rw [he]
          dsimp only
          rw [g1]
          dsimp only
          have fin : put fs' j u (fun fs'' => put hp a (.inr (ci', fs'')) (fun h' => k L st' h')) := by
            refine all2_put (R := gV ρ' τ) hu' hge2.2 hva (fun fs'' hf => ?_)
            exact all2_put (R := gC ρ' τ) (a := .inr (ci', setl fs j a')) (v := .inr (ci', fs'')) ⟨rfl, hf⟩ h3' hc (fun h' hh => hk _ hk' ρ' L _ h' ⟨hG', hF', h1', h2', hh⟩)
          match ty, g2 with
          | 0, g2 =>
            have g2 : (match iv G q with | some _ => true | none => false) = true := g2
            split at g2
            · rename_i q' e1
              obtain ⟨x, rfl, hx⟩ := iv_ok (lo := q'.1) (hi := q'.2) hG e1 hu
              exact fin
            · cases g2
          | 1, g2 =>
            have g2 : (match iv G q with | some (lo, hi) => ile 0 lo && ile hi 1 | none => false) = true := g2
            split at g2
            · rename_i lo hi e1
              rw [Bool.and_eq_true] at g2
              have g3 := of_decide_eq_true g2.1
              have g4 := of_decide_eq_true g2.2
              obtain ⟨x, rfl, hx⟩ := iv_ok hG e1 hu
              refine And.intro ?_ fin
              rcases (by omega : x.toInt = 0 ∨ x.toInt = 1) with h | h
              · exact Or.inl (i32eq.mpr h)
              · exact Or.inr (i32eq.mpr h)
            · cases g2
          | 2, g2 =>
            obtain ⟨x, rfl⟩ := isR_ok g2 hu
            exact fin
          | _ + 3, g2 => cases g2
      · cases h
    · cases h
  · cases h
theorem s_alen (hk : ∀ σ, K σ = true → Sf τ m0 k σ) (σ : Sg) (h : a_alen K σ = true) : Sf τ m0 (o_alen k) σ := by
  intro ρ L st hp hS
  obtain ⟨G, F, La, sa, Ha⟩ := σ
  obtain ⟨hG, hF, h1, h2, h3⟩ := hS
  rcases sa with _ | ⟨⟨lo, hi⟩ | ⟨kk, d⟩ | _ | a | t, r⟩
  · cases h
  · cases h
  · cases h
  · cases h
  · unfold a_alen at h
    dsimp only at h
    split at h
    · rename_i t n lo hi hc
      rw [Bool.and_eq_true, Bool.and_eq_true] at h
      obtain ⟨⟨g1, g2⟩, g3⟩ := h
      have g2 := Nat.ble_eq.mp g2
      obtain ⟨v, st', rfl, hv, h2a⟩ := all2_cons h2
      cases (hv : v = .inr (some (.inl a)))
      obtain ⟨e, he, hge⟩ := all2_nth h3 hc
      rcases e with ⟨t', n', f⟩ | ⟨ci', fs'⟩
      · obtain ⟨rfl, rfl, hf⟩ := hge
        unfold o_alen
        dsimp only
        rw [he]
        dsimp only
        rw [g1]
        have e1 : (Int32.ofNat n').toInt = (n' : Int) := nI_toInt (by omega)
        exact hk _ g3 ρ L _ hp ⟨hG, hF, h1, ⟨⟨_, rfl, by omega, by omega⟩, h2a⟩, h3⟩
      · exact hge.elim
    · cases h
  · cases h
end ABS3
