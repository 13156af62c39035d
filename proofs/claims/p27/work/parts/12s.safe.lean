/-! ===== safety by an abstract run: ranges, ghosts; the kernel counts ===== -/
/-- a range; a name and what is added; null, a place, a token -/
abbrev AV : Type := (Int × Int) ⊕ ((Nat × Int) ⊕ Option (Nat ⊕ Nat))
abbrev AC : Type := (Nat × Nat × Int × Int) ⊕ (Nat × List AV)
/-- names' ranges, measure, locals, stack, cells -/
abbrev Sg : Type := List (Int × Int) × (Int × List (Int × Nat)) × List (Option AV) × List AV × List AC
def all2 {α β : Type} (R : α → β → Prop) : List α → List β → Prop
  | [], [] => True
  | a :: x, b :: y => R a b ∧ all2 R x y
  | [], _ :: _ => False
  | _ :: _, [] => False
def setl {α : Type} : List α → Nat → α → List α
  | [], _, _ => []
  | _ :: l, 0, v => v :: l
  | x :: l, n + 1, v => x :: setl l n v
theorem all2_nth {α β : Type} {R : α → β → Prop} : ∀ {x : List α} {y : List β} {i : Nat} {a : α}, all2 R x y → nth x i = some a → ∃ b, nth y i = some b ∧ R a b
  | [], _, _, _, _, h => by cases h
  | _ :: _, [], _, _, h, _ => h.elim
  | _ :: _, b :: _, 0, _, h, e => ⟨b, rfl, by cases e; exact h.1⟩
  | _ :: x, _ :: y, i + 1, _, h, e => all2_nth (x := x) (y := y) (i := i) h.2 e
theorem all2_put {α β : Type} {R : α → β → Prop} {a : α} {v : β} (hr : R a v) : ∀ {x : List α} {y : List β} {i : Nat} {a0 : α} {k : List β → Prop}, all2 R x y → nth x i = some a0 → (∀ y', all2 R (setl x i a) y' → k y') → put y i v k
  | [], _, _, _, _, _, h, _ => by cases h
  | _ :: _, [], _, _, _, h, _, _ => h.elim
  | _ :: _, _ :: y, 0, _, _, h, _, hk => hk (v :: y) ⟨hr, h.2⟩
  | _ :: x, b :: y, i + 1, _, _, h, e, hk => all2_put hr (x := x) (y := y) (i := i) h.2 e (fun y' hy => hk (b :: y') ⟨h.1, hy⟩)
theorem all2_imp {α β : Type} {R R' : α → β → Prop} {q : α → Bool} (hi : ∀ a b, q a = true → R a b → R' a b) : ∀ {x : List α} {y : List β}, x.all q = true → all2 R x y → all2 R' x y
  | [], [], _, _ => trivial
  | [], _ :: _, _, h => h.elim
  | _ :: _, [], _, h => h.elim
  | a :: x, b :: y, hq, h => by
    rw [List.all_cons, Bool.and_eq_true] at hq
    exact ⟨hi a b hq.1 h.1, all2_imp hi hq.2 h.2⟩
theorem all2_len {α β : Type} {R : α → β → Prop} : ∀ {x : List α} {y : List β}, all2 R x y → y.length = x.length
  | [], [], _ => rfl
  | [], _ :: _, h => h.elim
  | _ :: _, [], h => h.elim
  | _ :: x, _ :: y, h => congrArg (· + 1) (all2_len (x := x) (y := y) h.2)
/-- what a list holds at a place; the numbers that are kept exactly: tokens 100 and on for arrays, 200 and on for numbers -/
def decA (l : List (Option Nat)) (i : Nat) : Int32 := match nth l i with
  | some (some v) => Int32.ofNat v
  | _ => 0
/-- ranges of the numbers that are kept exactly: 201 the flag of what is kept, 202 how many bytes the tape has -/
def rT (t : Nat) : Int × Int := match t with
  | 201 => (0, 1)
  | 202 => (0, 260)
  | 204 => (0, 48)
  | 205 => (0, 48)
  | _ => (-2147483648, 2147483647)
def gT (τ : Nat → List (Option Nat)) (t : Nat) (v : PV) : Prop := match Nat.ble 200 t with
  | true => v = .inl (decA (τ t) 0) ∧ (rT t).1 ≤ (decA (τ t) 0).toInt ∧ (decA (τ t) 0).toInt ≤ (rT t).2
  | false => v = .inr (some (.inr (τ t)))
theorem gT_r {τ : Nat → List (Option Nat)} {t : Nat} {v : PV} (ht : Nat.ble 200 t = false) (h : gT τ t v) : v = .inr (some (.inr (τ t))) := by
  unfold gT at h
  rw [ht] at h
  exact h
theorem gT_p {τ : Nat → List (Option Nat)} {t : Nat} {v : PV} (ht : Nat.ble 200 t = true) (h : gT τ t v) : v = .inl (decA (τ t) 0) ∧ (rT t).1 ≤ (decA (τ t) 0).toInt ∧ (decA (τ t) 0).toInt ≤ (rT t).2 := by
  unfold gT at h
  rw [ht] at h
  exact h
theorem gT_i {τ : Nat → List (Option Nat)} {t : Nat} {v : PV} (ht : Nat.ble 200 t = true) (h : gT τ t v) : v = .inl (decA (τ t) 0) := (gT_p ht h).1
theorem gT_x {τ : Nat → List (Option Nat)} {t : Nat} {v : PV} (ht : Nat.ble 200 t = true) (h : gT τ t v) : ∃ x : Int32, v = .inl x ∧ x = decA (τ t) 0 ∧ (rT t).1 ≤ x.toInt ∧ x.toInt ≤ (rT t).2 := ⟨_, (gT_p ht h).1, rfl, (gT_p ht h).2⟩
theorem gT_mk {τ : Nat → List (Option Nat)} {t : Nat} {x : Int32} (ht : Nat.ble 200 t = true) (e : x = decA (τ t) 0) (r : (rT t).1 ≤ x.toInt ∧ x.toInt ≤ (rT t).2) : gT τ t (.inl x) := by
  subst e
  unfold gT
  rw [ht]
  exact ⟨rfl, r⟩
theorem gT_to {τ τ' : Nat → List (Option Nat)} {t : Nat} {v : PV} (e : τ' t = τ t) (h : gT τ t v) : gT τ' t v := by
  unfold gT at h ⊢
  rw [e]
  exact h
def gV (ρ : Nat → Int) (τ : Nat → List (Option Nat)) (a : AV) (v : PV) : Prop := match a with
  | .inl (lo, hi) => ∃ x : Int32, v = .inl x ∧ lo ≤ x.toInt ∧ x.toInt ≤ hi
  | .inr (.inl (k, d)) => ∃ x : Int32, v = .inl x ∧ x.toInt = ρ k + d
  | .inr (.inr none) => v = .inr none
  | .inr (.inr (some (.inl a))) => v = .inr (some (.inl a))
  | .inr (.inr (some (.inr t))) => gT τ t v
def gO (ρ : Nat → Int) (τ : Nat → List (Option Nat)) (a : Option AV) (v : Option PV) : Prop := match a, v with
  | none, _ => True
  | some a, some v => gV ρ τ a v
  | some _, none => False
/-- kind 3: a whole-number array of which only the places 8 to 15 are told -/
def kk (t : Nat) : Nat := match t with
  | 3 => 0
  | 5 => 0
  | t => match Nat.ble 10 t with
    | true => (match Nat.ble 1000 t with
      | true => t % 4
      | false => 0)
    | false => t
def sel (t i : Nat) : Bool := match t with
  | 3 => Nat.ble 8 i && Nat.ble i 15
  | 5 => false
  | t => match Nat.ble 10 t with
    | true => (match Nat.ble 1000 t with
      | true => true
      | false => match Nat.ble 700 t with
        | true => Nat.beq (i + 700) t
        | false => match Nat.ble 600 t with
          | true => Nat.ble 8 i && Nat.ble i 15
          | false => Nat.beq (i + 2) t)
    | false => true
/-- kinds 1000 and on: the array is the one that the token t / 4 holds (and its numbers lie in the told range) -/
def g3 (τ : Nat → List (Option Nat)) (t i : Nat) (x : Int32) : Prop := match Nat.ble 1000 t with
  | true => x = decA (τ (t / 4)) i
  | false => match Nat.ble 700 t with
    | true => True
    | false => match Nat.ble 600 t with
      | true => i = 128 → x = decA (τ (t - 392)) 0
      | false => 8 ≤ i → i ≤ 15 → 0 ≤ x.toInt ∧ x.toInt ≤ 383
theorem g3_x {τ : Nat → List (Option Nat)} {t i : Nat} {x : Int32} (h : Nat.ble 1000 t = true) (g : g3 τ t i x) : x = decA (τ (t / 4)) i := by
  unfold g3 at g
  rw [h] at g
  exact g
theorem g3_mk {τ : Nat → List (Option Nat)} {t i : Nat} {x : Int32} (h : Nat.ble 1000 t = true) (g : x = decA (τ (t / 4)) i) : g3 τ t i x := by
  unfold g3
  rw [h]
  exact g
theorem ble7 {t : Nat} (h : Nat.ble 700 t = false) : Nat.ble 1000 t = false := by
  cases hb : Nat.ble 1000 t
  · rfl
  · have h1 := Nat.ble_eq.mp hb
    have h2 : Nat.ble 700 t = true := Nat.ble_eq.mpr (by omega)
    rw [h2] at h
    exact h
theorem g3_p {τ : Nat → List (Option Nat)} {t i : Nat} {x : Int32} (h : Nat.ble 700 t = false) (h6 : Nat.ble 600 t = false) (g : g3 τ t i x) (h1 : 8 ≤ i) (h2 : i ≤ 15) : 0 ≤ x.toInt ∧ x.toInt ≤ 383 := by
  unfold g3 at g
  rw [ble7 h] at g
  have g : (match Nat.ble 700 t with
    | true => True
    | false => match Nat.ble 600 t with
      | true => i = 128 → x = decA (τ (t - 392)) 0
      | false => 8 ≤ i → i ≤ 15 → 0 ≤ x.toInt ∧ x.toInt ≤ 383) := g
  rw [h] at g
  have g : (match Nat.ble 600 t with
      | true => i = 128 → x = decA (τ (t - 392)) 0
      | false => 8 ≤ i → i ≤ 15 → 0 ≤ x.toInt ∧ x.toInt ≤ 383) := g
  rw [h6] at g
  exact g h1 h2
theorem g3_q {τ : Nat → List (Option Nat)} {t i : Nat} {x : Int32} (h : Nat.ble 700 t = false) (h6 : Nat.ble 600 t = false) (g : 8 ≤ i → i ≤ 15 → 0 ≤ x.toInt ∧ x.toInt ≤ 383) : g3 τ t i x := by
  unfold g3
  rw [ble7 h]
  show (match Nat.ble 700 t with
    | true => True
    | false => match Nat.ble 600 t with
      | true => i = 128 → x = decA (τ (t - 392)) 0
      | false => 8 ≤ i → i ≤ 15 → 0 ≤ x.toInt ∧ x.toInt ≤ 383)
  rw [h]
  show (match Nat.ble 600 t with
      | true => i = 128 → x = decA (τ (t - 392)) 0
      | false => 8 ≤ i → i ≤ 15 → 0 ≤ x.toInt ∧ x.toInt ≤ 383)
  rw [h6]
  exact g
theorem g3_d {τ : Nat → List (Option Nat)} {t i : Nat} {x : Int32} (h : Nat.ble 700 t = false) (h6 : Nat.ble 600 t = true) (g : g3 τ t i x) : i = 128 → x = decA (τ (t - 392)) 0 := by
  unfold g3 at g
  rw [ble7 h] at g
  have g : (match Nat.ble 700 t with
    | true => True
    | false => match Nat.ble 600 t with
      | true => i = 128 → x = decA (τ (t - 392)) 0
      | false => 8 ≤ i → i ≤ 15 → 0 ≤ x.toInt ∧ x.toInt ≤ 383) := g
  rw [h] at g
  have g : (match Nat.ble 600 t with
      | true => i = 128 → x = decA (τ (t - 392)) 0
      | false => 8 ≤ i → i ≤ 15 → 0 ≤ x.toInt ∧ x.toInt ≤ 383) := g
  rw [h6] at g
  exact g
theorem g3_dm {τ : Nat → List (Option Nat)} {t i : Nat} {x : Int32} (h : Nat.ble 700 t = false) (h6 : Nat.ble 600 t = true) (g : i = 128 → x = decA (τ (t - 392)) 0) : g3 τ t i x := by
  unfold g3
  rw [ble7 h]
  show (match Nat.ble 700 t with
    | true => True
    | false => match Nat.ble 600 t with
      | true => i = 128 → x = decA (τ (t - 392)) 0
      | false => 8 ≤ i → i ≤ 15 → 0 ≤ x.toInt ∧ x.toInt ≤ 383)
  rw [h]
  show (match Nat.ble 600 t with
      | true => i = 128 → x = decA (τ (t - 392)) 0
      | false => 8 ≤ i → i ≤ 15 → 0 ≤ x.toInt ∧ x.toInt ≤ 383)
  rw [h6]
  exact g
theorem g3_m {τ : Nat → List (Option Nat)} {t i : Nat} {x : Int32} (h : Nat.ble 1000 t = false) (h7 : Nat.ble 700 t = true) : g3 τ t i x := by
  unfold g3
  rw [h]
  show (match Nat.ble 700 t with
    | true => True
    | false => match Nat.ble 600 t with
      | true => i = 128 → x = decA (τ (t - 392)) 0
      | false => 8 ≤ i → i ≤ 15 → 0 ≤ x.toInt ∧ x.toInt ≤ 383)
  rw [h7]
  trivial
theorem g3_to {τ τ' : Nat → List (Option Nat)} {t i : Nat} {x : Int32} (e : Nat.ble 1000 t = true → τ' (t / 4) = τ (t / 4)) (e6 : Nat.ble 600 t = true → τ' (t - 392) = τ (t - 392)) (g : g3 τ t i x) : g3 τ' t i x := by
  cases h : Nat.ble 1000 t
  · cases h7 : Nat.ble 700 t
    · cases h6 : Nat.ble 600 t
      · exact g3_q h7 h6 (g3_p h7 h6 g)
      · exact g3_dm h7 h6 (fun ei => by rw [e6 h6]; exact g3_d h7 h6 g ei)
    · exact g3_m h h7
  · exact g3_mk h (by rw [e h]; exact g3_x h g)
def gC (ρ : Nat → Int) (τ : Nat → List (Option Nat)) (a : AC) (e : PE) : Prop := match a, e with
  | .inl (t, n, lo, hi), .inl (t', n', f) => t' = kk t ∧ n' = n ∧ ∀ i, i < n → (sel t i = true → lo ≤ (f i).toInt ∧ (f i).toInt ≤ hi) ∧ (t = 5 → f i = decA (τ lo.toNat) i) ∧ (Nat.ble 10 t = true → g3 τ t i (f i))
  | .inr (ci, fs), .inr (ci', fs') => ci' = ci ∧ all2 (gV ρ τ) fs fs'
  | .inl _, .inr _ => False
  | .inr _, .inl _ => False
def evF (ρ : Nat → Int) : List (Int × Nat) → Int
  | [] => 0
  | (w, k) :: r => w * ρ k + evF ρ r
def gG (ρ : Nat → Int) (G : List (Int × Int)) : Prop := ∀ (k : Nat) (lo hi : Int), nth G k = some (lo, hi) → lo ≤ ρ k ∧ ρ k ≤ hi
def gS (ρ : Nat → Int) (τ : Nat → List (Option Nat)) (m0 : Int) (σ : Sg) (L : PL) (st : List PV) (h : PH) : Prop := gG ρ σ.1 ∧ m0 = σ.2.1.1 + evF ρ σ.2.1.2 ∧ all2 (gO ρ τ) σ.2.2.1 L ∧ all2 (gV ρ τ) σ.2.2.2.1 st ∧ all2 (gC ρ τ) σ.2.2.2.2 h
def iv (G : List (Int × Int)) (a : AV) : Option (Int × Int) := match a with
  | .inl (lo, hi) => some (lo, hi)
  | .inr (.inl (k, d)) => match nth G k with
    | some (lo, hi) => some (lo + d, hi + d)
    | none => none
  | .inr (.inr (some (.inr t))) => match Nat.ble 200 t with
    | true => some (rT t)
    | false => none
  | _ => none
theorem i32lo (x : Int32) : -2147483648 ≤ x.toInt := by have := Int32.le_toInt x; omega
theorem i32hi (x : Int32) : x.toInt ≤ 2147483647 := by have := Int32.toInt_lt x; omega
theorem iv_ok {ρ : Nat → Int} {τ : Nat → List (Option Nat)} {G : List (Int × Int)} {a : AV} {v : PV} {lo hi : Int} (hG : gG ρ G) (h : iv G a = some (lo, hi)) (hv : gV ρ τ a v) : ∃ x : Int32, v = .inl x ∧ lo ≤ x.toInt ∧ x.toInt ≤ hi := by
  rcases a with ⟨l, u⟩ | ⟨k, d⟩ | _ | a | t
  · cases h; exact hv
  · obtain ⟨x, rfl, hx⟩ := hv
    unfold iv at h
    dsimp only at h
    split at h
    · rename_i l u hk
      cases h
      have := hG k l u hk
      exact ⟨x, rfl, by omega, by omega⟩
    · cases h
  · cases h
  · cases h
  · unfold iv at h
    dsimp only at h
    split at h
    · rename_i ht
      have h := Option.some.inj h
      have e1 : (rT t).1 = lo := congrArg Prod.fst h
      have e2 : (rT t).2 = hi := congrArg Prod.snd h
      rw [← e1, ← e2]
      exact ⟨_, gT_i ht hv, (gT_p ht hv).2.1, (gT_p ht hv).2.2⟩
    · cases h
def isR (a : AV) : Bool := match a with
  | .inr (.inr (some (.inr t))) => !Nat.ble 200 t
  | .inr (.inr _) => true
  | _ => false
theorem isR_ok {ρ : Nat → Int} {τ : Nat → List (Option Nat)} {a : AV} {v : PV} (h : isR a = true) (hv : gV ρ τ a v) : ∃ r : Option PR, v = .inr r := by
  rcases a with ⟨l, u⟩ | ⟨k, d⟩ | _ | a | t
  · cases h
  · cases h
  · exact ⟨_, hv⟩
  · exact ⟨_, hv⟩
  · have h : (!Nat.ble 200 t) = true := h
    rw [Bool.not_eq_true'] at h
    exact ⟨_, gT_r h hv⟩
def okA (n : Nat) (a : AV) : Bool := match a with
  | .inr (.inl (k, _)) => Nat.blt k n
  | _ => true
def okOv (n : Nat) (a : Option AV) : Bool := match a with
  | some a => okA n a
  | none => true
def okC (n : Nat) (a : AC) : Bool := match a with
  | .inr (_, fs) => fs.all (okA n)
  | _ => true
def okS (σ : Sg) : Bool := σ.2.2.1.all (okOv σ.1.length) && (σ.2.2.2.1.all (okA σ.1.length) && (σ.2.2.2.2.all (okC σ.1.length) && σ.2.1.2.all (fun q => Nat.blt q.2 σ.1.length)))
theorem gV_ext {ρ ρ' : Nat → Int} {τ : Nat → List (Option Nat)} {n : Nat} (hr : ∀ i, i < n → ρ' i = ρ i) (a : AV) (v : PV) (ho : okA n a = true) (h : gV ρ τ a v) : gV ρ' τ a v := by
  rcases a with ⟨l, u⟩ | ⟨k, d⟩ | _ | a | t
  · exact h
  · obtain ⟨x, rfl, hx⟩ := h
    exact ⟨x, rfl, by rw [hr k (Nat.blt_eq.mp ho)]; exact hx⟩
  · exact h
  · exact h
  · exact h
theorem gO_ext {ρ ρ' : Nat → Int} {τ : Nat → List (Option Nat)} {n : Nat} (hr : ∀ i, i < n → ρ' i = ρ i) (a : Option AV) (v : Option PV) (ho : okOv n a = true) (h : gO ρ τ a v) : gO ρ' τ a v := by
  cases a with
  | none => trivial
  | some a =>
    cases v with
    | none => exact h
    | some v => exact gV_ext hr a v ho h
theorem gC_ext {ρ ρ' : Nat → Int} {τ : Nat → List (Option Nat)} {n : Nat} (hr : ∀ i, i < n → ρ' i = ρ i) (a : AC) (v : PE) (ho : okC n a = true) (h : gC ρ τ a v) : gC ρ' τ a v := by
  rcases a with ⟨t, n, lo, hi⟩ | ⟨ci, fs⟩
  · rcases v with ⟨t', n', f⟩ | ⟨ci, fs⟩
    · exact h
    · exact h
  · rcases v with ⟨t', n', f⟩ | ⟨ci', fs'⟩
    · exact h
    · exact ⟨h.1, all2_imp (gV_ext hr) ho h.2⟩
theorem evF_ext {ρ ρ' : Nat → Int} {n : Nat} (hr : ∀ i, i < n → ρ' i = ρ i) : ∀ (l : List (Int × Nat)), l.all (fun q => Nat.blt q.2 n) = true → evF ρ' l = evF ρ l
  | [], _ => rfl
  | (w, k) :: r, h => by
    rw [List.all_cons, Bool.and_eq_true] at h
    show w * ρ' k + evF ρ' r = w * ρ k + evF ρ r
    rw [hr k (Nat.blt_eq.mp h.1), evF_ext hr r h.2]
/-- a name for a number that is known by its range -/
def frs (σ : Sg) (a : AV) (k : Sg → AV → Bool) : Bool := match a with
  | .inl (lo, hi) => okS σ && k (σ.1 ++ [(lo, hi)], σ.2) (.inr (.inl (σ.1.length, 0)))
  | a => k σ a
theorem frs_ok {ρ : Nat → Int} {τ : Nat → List (Option Nat)} {m0 : Int} {σ : Sg} {L : PL} {st : List PV} {h : PH} {a : AV} {v : PV} {k : Sg → AV → Bool} (hS : gS ρ τ m0 σ L st h) (hv : gV ρ τ a v) (hk : frs σ a k = true) : ∃ (ρ' : Nat → Int) (G' : List (Int × Int)) (a' : AV), k (G', σ.2) a' = true ∧ gS ρ' τ m0 (G', σ.2) L st h ∧ gV ρ' τ a' v := by
  rcases a with ⟨lo, hi⟩ | ⟨k', d⟩ | a
  · obtain ⟨x, rfl, hx⟩ := hv
    have hk' : (okS σ && k (σ.1 ++ [(lo, hi)], σ.2) (.inr (.inl (σ.1.length, 0)))) = true := hk
    rw [Bool.and_eq_true] at hk'
    obtain ⟨ho, hk'⟩ := hk'
    unfold okS at ho
    rw [Bool.and_eq_true, Bool.and_eq_true, Bool.and_eq_true] at ho
    obtain ⟨o1, o2, o3, o4⟩ := ho
    obtain ⟨hG, hF, h1, h2, h3⟩ := hS
    have hr : ∀ i, i < σ.1.length → (fun i => if i = σ.1.length then x.toInt else ρ i) i = ρ i := fun i hi => if_neg (by omega)
    refine ⟨fun i => if i = σ.1.length then x.toInt else ρ i, σ.1 ++ [(lo, hi)], .inr (.inl (σ.1.length, 0)), hk', ⟨?_, ?_, all2_imp (gO_ext hr) o1 h1, all2_imp (gV_ext hr) o2 h2, all2_imp (gC_ext hr) o3 h3⟩, x, rfl, ?_⟩
    · intro i l u hi'
      show l ≤ (if i = σ.1.length then x.toInt else ρ i) ∧ (if i = σ.1.length then x.toInt else ρ i) ≤ u
      rw [nth_eq] at hi'
      by_cases hi : i = σ.1.length
      · subst hi
        rw [List.getElem?_append_right (Nat.le_refl _), Nat.sub_self] at hi'
        cases hi'
        rw [if_pos rfl]
        exact hx
      · rw [if_neg hi]
        by_cases hi2 : i < σ.1.length
        · rw [List.getElem?_append_left hi2, ← nth_eq] at hi'
          exact hG i l u hi'
        · rw [List.getElem?_append_right (by omega), List.getElem?_eq_none (by simp; omega)] at hi'
          cases hi'
    · show m0 = σ.2.1.1 + evF _ σ.2.1.2
      rw [evF_ext hr σ.2.1.2 o4]
      exact hF
    · show x.toInt = (if σ.1.length = σ.1.length then x.toInt else ρ _) + 0
      rw [if_pos rfl]
      omega
  · exact ⟨ρ, σ.1, _, hk, hS, hv⟩
  · exact ⟨ρ, σ.1, _, hk, hS, hv⟩
/-! arithmetic -/
theorem bm {n : Int} (h1 : -2147483648 ≤ n) (h2 : n ≤ 2147483647) : n.bmod (2 ^ 32) = n := Int.bmod_eq_of_le (by omega) (by omega)
def fit32 (lo hi : Int) : Bool := decide (-2147483648 ≤ lo) && decide (hi ≤ 2147483647)
def topA : AV := .inl (-2147483648, 2147483647)
theorem topA_ok {ρ : Nat → Int} {τ : Nat → List (Option Nat)} (x : Int32) : gV ρ τ topA (.inl x) := ⟨x, rfl, i32lo x, i32hi x⟩
def fB (f : Nat) : Int32 → Int32 → Int32 := match f with
  | 0 => f_add
  | 1 => f_sub
  | 2 => f_mul
  | 3 => f_and
  | 4 => f_or
  | 5 => f_xor
  | 6 => f_shl
  | 7 => f_shr
  | _ => f_ushr
def addC (x : AV) (lo hi : Int) (n : Int) : AV := match x with
  | .inr (.inl (k, d)) => .inr (.inl (k, d + n))
  | _ => .inl (lo + n, hi + n)
theorem addC_ok {ρ : Nat → Int} {τ : Nat → List (Option Nat)} {x : AV} {v w : Int32} {lo hi n : Int} (hx : gV ρ τ x (.inl v)) (h1 : lo ≤ v.toInt) (h2 : v.toInt ≤ hi) (hw : w.toInt = v.toInt + n) : gV ρ τ (addC x lo hi n) (.inl w) := by
  rcases x with ⟨l, u⟩ | ⟨k, d⟩ | a
  · exact ⟨w, rfl, by omega, by omega⟩
  · obtain ⟨v', e, hv⟩ := hx
    cases e
    exact ⟨w, rfl, by omega⟩
  · exact ⟨w, rfl, by omega, by omega⟩
def ieq (a b : Int) : Bool := decide (a = b)
def ile (a b : Int) : Bool := decide (a ≤ b)
theorem and_le {x y : Int32} (h : 0 ≤ y.toInt) : 0 ≤ (x &&& y).toInt ∧ (x &&& y).toInt ≤ y.toInt := by
  have e : (x &&& y).toInt = (x.toBitVec &&& y.toBitVec).toInt := rfl
  have ey : y.toInt = y.toBitVec.toInt := rfl
  rw [e, ey]
  rw [ey] at h
  have hm : y.toBitVec.msb = false := by
    cases hb : y.toBitVec.msb
    · rfl
    · have := BitVec.toInt_neg_of_msb_true hb
      omega
  have hm2 : (x.toBitVec &&& y.toBitVec).msb = false := by rw [BitVec.msb_and, hm, Bool.and_false]
  rw [BitVec.toInt_eq_toNat_of_msb hm, BitVec.toInt_eq_toNat_of_msb hm2, BitVec.toNat_and]
  have := Nat.and_le_right (n := x.toBitVec.toNat) (m := y.toBitVec.toNat)
  omega
def binA (f : Nat) (x y : AV) (a b c d : Int) : AV := match f with
  | 0 => match fit32 (a + c) (b + d) with
    | true => match ieq c d with
      | true => addC x a b c
      | false => match ieq a b with
        | true => addC y c d a
        | false => .inl (a + c, b + d)
    | false => topA
  | 1 => match fit32 (a - d) (b - c) with
    | true => match ieq c d with
      | true => addC x a b (-c)
      | false => .inl (a - d, b - c)
    | false => topA
  | 2 => match (ile 0 a && ile 0 c) && fit32 (a * c) (b * d) with
    | true => .inl (a * c, b * d)
    | false => match (ile 0 a && (ile c 0 && ile 0 d)) && fit32 (b * c) (b * d) with
      | true => .inl (b * c, b * d)
      | false => topA
  | 3 => match ile 0 c with
    | true => .inl (0, d)
    | false => match ile 0 a with
      | true => .inl (0, b)
      | false => topA
  | 6 => match (ieq a 1 && ieq b 1) && (ile 0 c && ile d 30) with
    | true => .inl (1, ((Nat.pow 2 d.toNat : Nat) : Int))
    | false => match ieq a 1 && ieq b 1 with
      | true => .inl (-2147483648, 1073741824)
      | false => topA
  | _ => topA
theorem shl2 {w : Int32} : (f_shl 1 w).toInt ≤ 1073741824 := by
  have q : ∀ k, k < 32 → ((1 : Int32) <<< (Int32.ofNat k)).toInt ≤ 1073741824 := by decide +kernel
  have hk : 0 ≤ (w &&& 31).toInt ∧ (w &&& 31).toInt ≤ 31 := and_le (x := w) (y := 31) (by decide)
  have e : (w &&& 31) = Int32.ofNat (w &&& 31).toInt.toNat := Int32.toInt_inj.mp (by have e0 : (Int32.ofNat (w &&& 31).toInt.toNat).toInt = ((w &&& 31).toInt.toNat : Int) := nI_toInt (by omega); omega)
  have := q (w &&& 31).toInt.toNat (by omega)
  rw [← e] at this
  exact this
theorem shl1 {w : Int32} (h0 : 0 ≤ w.toInt) (h1 : w.toInt ≤ 30) : (f_shl 1 w).toInt = ((Nat.pow 2 w.toInt.toNat : Nat) : Int) := by
  have q : ∀ k, k < 31 → (f_shl 1 (Int32.ofNat k)).toInt = ((Nat.pow 2 k : Nat) : Int) := by decide +kernel
  have e : w = Int32.ofNat w.toInt.toNat := Int32.toInt_inj.mp (by have e0 : (Int32.ofNat w.toInt.toNat).toInt = (w.toInt.toNat : Int) := nI_toInt (by omega); omega)
  have := q w.toInt.toNat (by omega)
  rw [← e] at this
  exact this
theorem binA_ok {ρ : Nat → Int} {τ : Nat → List (Option Nat)} {f : Nat} {x y : AV} {v w : Int32} {a b c d : Int} (hx : gV ρ τ x (.inl v)) (hy : gV ρ τ y (.inl w)) (h1 : a ≤ v.toInt ∧ v.toInt ≤ b) (h2 : c ≤ w.toInt ∧ w.toInt ≤ d) : gV ρ τ (binA f x y a b c d) (.inl (fB f v w)) := by
  unfold binA
  split
  · split
    · rename_i hf
      unfold fit32 at hf
      rw [Bool.and_eq_true, decide_eq_true_eq, decide_eq_true_eq] at hf
      have e : (fB 0 v w).toInt = v.toInt + w.toInt := by
        show (v + w).toInt = _
        rw [Int32.toInt_add, bm (by omega) (by omega)]
      split
      · rename_i hc
        have hc := of_decide_eq_true hc
        exact addC_ok hx h1.1 h1.2 (by omega)
      · split
        · rename_i hc
          have hc := of_decide_eq_true hc
          exact addC_ok hy h2.1 h2.2 (by omega)
        · exact ⟨_, rfl, by omega, by omega⟩
    · exact topA_ok _
  · split
    · rename_i hf
      unfold fit32 at hf
      rw [Bool.and_eq_true, decide_eq_true_eq, decide_eq_true_eq] at hf
      have e : (fB 1 v w).toInt = v.toInt - w.toInt := by
        show (v - w).toInt = _
        rw [Int32.toInt_sub, bm (by omega) (by omega)]
      split
      · rename_i hc
        have hc := of_decide_eq_true hc
        exact addC_ok hx h1.1 h1.2 (by omega)
      · exact ⟨_, rfl, by omega, by omega⟩
    · exact topA_ok _
  · split
    · rename_i hf
      unfold fit32 ile at hf
      rw [Bool.and_eq_true, Bool.and_eq_true, Bool.and_eq_true, decide_eq_true_eq, decide_eq_true_eq, decide_eq_true_eq, decide_eq_true_eq] at hf
      obtain ⟨⟨g1, g2⟩, g3, g4⟩ := hf
      have m1 : a * c ≤ v.toInt * w.toInt := Int.mul_le_mul h1.1 h2.1 g2 (by omega)
      have m2 : v.toInt * w.toInt ≤ b * d := Int.mul_le_mul h1.2 h2.2 (by omega) (by omega)
      have e : (fB 2 v w).toInt = v.toInt * w.toInt := by
        show (v * w).toInt = _
        rw [Int32.toInt_mul, bm (by omega) (by omega)]
      exact ⟨_, rfl, by omega, by omega⟩
    · split
      · rename_i hf
        unfold fit32 ile at hf
        simp only [Bool.and_eq_true, decide_eq_true_eq] at hf
        obtain ⟨⟨g1, g2, g2'⟩, g3, g4⟩ := hf
        have e1 : b * c ≤ v.toInt * c := Int.mul_le_mul_of_nonpos_right h1.2 g2
        have e2 : v.toInt * c ≤ v.toInt * w.toInt := Int.mul_le_mul_of_nonneg_left h2.1 (by omega)
        have e3 : v.toInt * w.toInt ≤ v.toInt * d := Int.mul_le_mul_of_nonneg_left h2.2 (by omega)
        have e4 : v.toInt * d ≤ b * d := Int.mul_le_mul_of_nonneg_right h1.2 g2'
        have e : (fB 2 v w).toInt = v.toInt * w.toInt := by
          show (v * w).toInt = _
          rw [Int32.toInt_mul, bm (by omega) (by omega)]
        exact ⟨_, rfl, by omega, by omega⟩
      · exact topA_ok _
  · split
    · rename_i hc
      have hc := of_decide_eq_true hc
      have := and_le (x := v) (y := w) (by omega)
      exact ⟨_, rfl, this.1, by show (v &&& w).toInt ≤ d; omega⟩
    · split
      · rename_i hc
        have hc := of_decide_eq_true hc
        have := and_le (x := w) (y := v) (by omega)
        refine ⟨_, rfl, ?_, ?_⟩
        · show 0 ≤ (v &&& w).toInt
          rw [Int32.and_comm]; exact this.1
        · show (v &&& w).toInt ≤ b
          rw [Int32.and_comm]; omega
      · exact topA_ok _
  · split
    · rename_i hc
      unfold ieq ile at hc
      rw [Bool.and_eq_true, Bool.and_eq_true, Bool.and_eq_true, decide_eq_true_eq, decide_eq_true_eq, decide_eq_true_eq, decide_eq_true_eq] at hc
      obtain ⟨⟨g1, g2⟩, g3, g4⟩ := hc
      have e1 : v = 1 := Int32.toInt_inj.mp (by show v.toInt = 1; omega)
      subst e1
      have e2 := shl1 (w := w) (by omega) (by omega)
      have e3 : Nat.pow 2 w.toInt.toNat ≤ Nat.pow 2 d.toNat := Nat.pow_le_pow_right (by omega) (by omega)
      have e4 : 1 ≤ Nat.pow 2 w.toInt.toNat := Nat.one_le_two_pow
      exact ⟨_, rfl, by show (1 : Int) ≤ (f_shl 1 w).toInt; omega, by show (f_shl 1 w).toInt ≤ _; omega⟩
    · split
      · rename_i hc
        unfold ieq at hc
        rw [Bool.and_eq_true, decide_eq_true_eq, decide_eq_true_eq] at hc
        have e1 : v = 1 := Int32.toInt_inj.mp (by show v.toInt = 1; omega)
        subst e1
        exact ⟨_, rfl, i32lo _, shl2⟩
      · exact topA_ok _
  · exact topA_ok _
