/-! ===== the abstract instructions ===== -/
def Sf (τ : Nat → List (Option Nat)) (m0 : Int) (B : Blk) (σ : Sg) : Prop := ∀ (ρ : Nat → Int) (L : PL) (st : List PV) (h : PH), gS ρ τ m0 σ L st h → B L st h
def sG (σ : Sg) (G : List (Int × Int)) : Sg := (G, σ.2)
def sL (σ : Sg) (L : List (Option AV)) : Sg := (σ.1, σ.2.1, L, σ.2.2.2)
def sS (σ : Sg) (s : List AV) : Sg := (σ.1, σ.2.1, σ.2.2.1, s, σ.2.2.2.2)
def sH (σ : Sg) (H : List AC) : Sg := (σ.1, σ.2.1, σ.2.2.1, σ.2.2.2.1, H)
theorem all2_cons {α β : Type} {R : α → β → Prop} {a : α} {x : List α} {y : List β} (h : all2 R (a :: x) y) : ∃ b y', y = b :: y' ∧ R a b ∧ all2 R x y' := by
  cases y with
  | nil => exact h.elim
  | cons b y' => exact ⟨b, y', rfl, h.1, h.2⟩
def a_push (v : Int32) (w : Int) (K : Sg → Bool) (σ : Sg) : Bool := ieq v.toInt w && K (sS σ (.inl (w, w) :: σ.2.2.2.1))
def a_iload (i : Nat) (K : Sg → Bool) (σ : Sg) : Bool := match nth σ.2.2.1 i with
  | some (some a) => match iv σ.1 a with
    | some _ => K (sS σ (a :: σ.2.2.2.1))
    | none => false
  | _ => false
def a_aload (i : Nat) (K : Sg → Bool) (σ : Sg) : Bool := match nth σ.2.2.1 i with
  | some (some a) => isR a && K (sS σ (a :: σ.2.2.2.1))
  | _ => false
def a_istore (i : Nat) (K : Sg → Bool) (σ : Sg) : Bool := match σ.2.2.2.1 with
  | a :: r => match iv σ.1 a, nth σ.2.2.1 i with
    | some _, some _ => frs (sS σ r) a (fun σ' a' => K (sL σ' (setl σ'.2.2.1 i (some a'))))
    | _, _ => false
  | [] => false
def a_astore (i : Nat) (K : Sg → Bool) (σ : Sg) : Bool := match σ.2.2.2.1 with
  | a :: r => match nth σ.2.2.1 i with
    | some _ => isR a && K (sL (sS σ r) (setl σ.2.2.1 i (some a)))
    | _ => false
  | [] => false
def a_iinc (i : Nat) (n : Int32) (w : Int) (K : Sg → Bool) (σ : Sg) : Bool := match nth σ.2.2.1 i with
  | some (some a) => match iv σ.1 a with
    | some (lo, hi) => ieq n.toInt w && K (sL σ (setl σ.2.2.1 i (some (binA 0 a (.inl (w, w)) lo hi w w))))
    | none => false
  | _ => false
def a_bin (f : Nat) (K : Sg → Bool) (σ : Sg) : Bool := match σ.2.2.2.1 with
  | y :: x :: r => match iv σ.1 x, iv σ.1 y with
    | some (a, b), some (c, d) => K (sS σ (binA f x y a b c d :: r))
    | _, _ => false
  | _ => false
section ABS
variable {τ : Nat → List (Option Nat)} {m0 : Int} {K : Sg → Bool} {k : Blk}
theorem s_push {v : Int32} {w : Int} (hk : ∀ σ, K σ = true → Sf τ m0 k σ) (σ : Sg) (h : a_push v w K σ = true) : Sf τ m0 (o_push (.inl v) k) σ := by
  intro ρ L st hp hS
  unfold a_push at h
  rw [Bool.and_eq_true] at h
  have e := of_decide_eq_true h.1
  obtain ⟨hG, hF, h1, h2, h3⟩ := hS
  exact hk _ h.2 ρ L _ hp ⟨hG, hF, h1, ⟨⟨v, rfl, by omega, by omega⟩, h2⟩, h3⟩
theorem s_iload {i : Nat} (hk : ∀ σ, K σ = true → Sf τ m0 k σ) (σ : Sg) (h : a_iload i K σ = true) : Sf τ m0 (o_iload i k) σ := by
  intro ρ L st hp hS
  obtain ⟨hG, hF, h1, h2, h3⟩ := hS
  unfold a_iload at h
  split at h
  · rename_i a ha
    split at h
    · rename_i q hq
      obtain ⟨v, hv, hr⟩ := all2_nth h1 ha
      cases v with
      | none => exact hr.elim
      | some v =>
        obtain ⟨x, rfl, hx⟩ := iv_ok (lo := q.1) (hi := q.2) hG hq hr
        unfold o_iload
        rw [hv]
        exact hk _ h ρ L _ hp ⟨hG, hF, h1, ⟨hr, h2⟩, h3⟩
    · cases h
  · cases h
theorem s_aload {i : Nat} (hk : ∀ σ, K σ = true → Sf τ m0 k σ) (σ : Sg) (h : a_aload i K σ = true) : Sf τ m0 (o_aload i k) σ := by
  intro ρ L st hp hS
  obtain ⟨hG, hF, h1, h2, h3⟩ := hS
  unfold a_aload at h
  split at h
  · rename_i a ha
    rw [Bool.and_eq_true] at h
    obtain ⟨v, hv, hr⟩ := all2_nth h1 ha
    cases v with
    | none => exact hr.elim
    | some v =>
      obtain ⟨x, rfl⟩ := isR_ok h.1 hr
      unfold o_aload
      rw [hv]
      exact hk _ h.2 ρ L _ hp ⟨hG, hF, h1, ⟨hr, h2⟩, h3⟩
  · cases h
theorem s_istore {i : Nat} (hk : ∀ σ, K σ = true → Sf τ m0 k σ) (σ : Sg) (h : a_istore i K σ = true) : Sf τ m0 (o_istore i k) σ := by
  intro ρ L st hp hS
  obtain ⟨G, F, La, sa, Ha⟩ := σ
  unfold a_istore at h
  cases sa with
  | nil => cases h
  | cons a r =>
    dsimp only at h
    split at h
    · rename_i q o hq ho
      obtain ⟨hG, hF, h1, h2, h3⟩ := hS
      obtain ⟨v, st', rfl, hv, h2a⟩ := all2_cons h2
      obtain ⟨x, rfl, hx⟩ := iv_ok (lo := q.1) (hi := q.2) hG hq hv
      obtain ⟨ρ', G', a', hk', ⟨hG, hF, h1, h2, h3⟩, hv⟩ := frs_ok (σ := sS (G, F, La, a :: r, Ha) r) (L := L) (st := st') (h := hp) ⟨hG, hF, h1, h2a, h3⟩ hv h
      exact all2_put (R := gO ρ' τ) (a := some a') (v := some (.inl x)) hv h1 ho (fun y' hy => hk _ hk' ρ' y' st' hp ⟨hG, hF, hy, h2, h3⟩)
    · cases h
theorem s_astore {i : Nat} (hk : ∀ σ, K σ = true → Sf τ m0 k σ) (σ : Sg) (h : a_astore i K σ = true) : Sf τ m0 (o_astore i k) σ := by
  intro ρ L st hp hS
  obtain ⟨G, F, La, sa, Ha⟩ := σ
  unfold a_astore at h
  cases sa with
  | nil => cases h
  | cons a r =>
    dsimp only at h
    split at h
    · rename_i o ho
      rw [Bool.and_eq_true] at h
      obtain ⟨hG, hF, h1, h2, h3⟩ := hS
      obtain ⟨v, st', rfl, hv, h2a⟩ := all2_cons h2
      obtain ⟨x, rfl⟩ := isR_ok h.1 hv
      exact all2_put (R := gO ρ τ) (a := some a) (v := some (.inr x)) hv h1 ho (fun y' hy => hk _ h.2 ρ y' st' hp ⟨hG, hF, hy, h2a, h3⟩)
    · cases h
theorem s_iinc {i : Nat} {n : Int32} {w : Int} (hk : ∀ σ, K σ = true → Sf τ m0 k σ) (σ : Sg) (h : a_iinc i n w K σ = true) : Sf τ m0 (o_iinc i n k) σ := by
  intro ρ L st hp hS
  obtain ⟨hG, hF, h1, h2, h3⟩ := hS
  unfold a_iinc at h
  split at h
  · rename_i a ha
    split at h
    · rename_i lo hi hq
      rw [Bool.and_eq_true] at h
      have e := of_decide_eq_true h.1
      obtain ⟨v, hv, hr⟩ := all2_nth h1 ha
      cases v with
      | none => exact hr.elim
      | some v =>
        obtain ⟨x, rfl, hx⟩ := iv_ok hG hq hr
        unfold o_iinc
        rw [hv]
        have h4 : gV ρ τ (binA 0 a (.inl (w, w)) lo hi w w) (.inl (x + n)) := binA_ok (f := 0) hr ⟨n, rfl, by omega, by omega⟩ hx ⟨by omega, by omega⟩
        exact all2_put (R := gO ρ τ) (a := some _) (v := some (.inl (x + n))) h4 h1 ha (fun y' hy => hk _ h.2 ρ y' st hp ⟨hG, hF, hy, h2, h3⟩)
    · cases h
  · cases h
theorem s_bin {f : Nat} (hk : ∀ σ, K σ = true → Sf τ m0 k σ) (σ : Sg) (h : a_bin f K σ = true) : Sf τ m0 (o_bin (fB f) k) σ := by
  intro ρ L st hp hS
  obtain ⟨G, F, La, sa, Ha⟩ := σ
  obtain ⟨hG, hF, h1, h2, h3⟩ := hS
  unfold a_bin at h
  dsimp only at h
  split at h
  · split at h
    · rename_i y x r a b c d e1 e2
      obtain ⟨v, st', rfl, hv, h2a⟩ := all2_cons h2
      obtain ⟨w, st'', rfl, hw, h2b⟩ := all2_cons h2a
      obtain ⟨v', rfl, hv'⟩ := iv_ok hG e2 hv
      obtain ⟨w', rfl, hw'⟩ := iv_ok hG e1 hw
      exact hk _ h ρ L _ hp ⟨hG, hF, h1, ⟨binA_ok hw hv hw' hv', h2b⟩, h3⟩
    · cases h
  · cases h
end ABS
