/-! ===== abstract branches ===== -/
def relI (c : Nat) (p q : Int) : Prop := match c with
  | 0 => p = q
  | 1 => p < q
  | 2 => q ≤ p
  | 3 => q < p
  | 4 => p ≤ q
  | _ => ¬ p = q
def negI (c : Nat) : Nat := match c with
  | 0 => 5
  | 1 => 2
  | 2 => 1
  | 3 => 4
  | 4 => 3
  | _ => 0
def cB (c : Nat) : Int32 → Int32 → Prop := match c with
  | 0 => c_eq
  | 1 => c_lt
  | 2 => c_ge
  | 3 => c_gt
  | _ => c_le
theorem i32eq {x y : Int32} : x = y ↔ x.toInt = y.toInt := ⟨fun h => by rw [h], fun h => Int32.toInt_inj.mp h⟩
theorem cB_t {c : Nat} {v w : Int32} (hc : Nat.ble c 4 = true) (h : cB c v w) : relI c v.toInt w.toInt := by
  have := Nat.ble_eq.mp hc
  match c, this, h with
  | 0, _, h => exact i32eq.mp h
  | 1, _, h => exact Int32.lt_iff_toInt_lt.mp h
  | 2, _, h => exact Int32.le_iff_toInt_le.mp h
  | 3, _, h => exact Int32.lt_iff_toInt_lt.mp h
  | 4, _, h => exact Int32.le_iff_toInt_le.mp h
  | _ + 5, h, _ => omega
theorem cB_f {c : Nat} {v w : Int32} (hc : Nat.ble c 4 = true) (h : ¬ cB c v w) : relI (negI c) v.toInt w.toInt := by
  have := Nat.ble_eq.mp hc
  match c, this, h with
  | 0, _, h => exact fun z => h (i32eq.mpr z)
  | 1, _, h => exact Int32.le_iff_toInt_le.mp (Int32.not_lt.mp h)
  | 2, _, h => exact Int32.lt_iff_toInt_lt.mp (Int32.not_le.mp h)
  | 3, _, h => exact Int32.le_iff_toInt_le.mp (Int32.not_lt.mp h)
  | 4, _, h => exact Int32.lt_iff_toInt_lt.mp (Int32.not_le.mp h)
  | _ + 5, h, _ => omega
def capHi (G : List (Int × Int)) (x : AV) (u : Int) : List (Int × Int) := match x with
  | .inr (.inl (k, e)) => match nth G k with
    | some (lo, hi) => match ile hi (u - e) with
      | true => G
      | false => setl G k (lo, u - e)
    | none => G
  | _ => G
def capLo (G : List (Int × Int)) (x : AV) (l : Int) : List (Int × Int) := match x with
  | .inr (.inl (k, e)) => match nth G k with
    | some (lo, hi) => match ile (l - e) lo with
      | true => G
      | false => setl G k (l - e, hi)
    | none => G
  | _ => G
theorem nth_setl {α : Type} : ∀ (l : List α) (k i : Nat) (v w : α), nth (setl l k v) i = some w → (i = k ∧ w = v) ∨ nth l i = some w
  | [], _, _, _, _, h => by cases h
  | x :: l, 0, 0, v, w, h => by cases h; exact Or.inl ⟨rfl, rfl⟩
  | x :: l, 0, i + 1, v, w, h => Or.inr h
  | x :: l, k + 1, 0, v, w, h => Or.inr h
  | x :: l, k + 1, i + 1, v, w, h => by
    rcases nth_setl l k i v w h with h | h
    · exact Or.inl ⟨by omega, h.2⟩
    · exact Or.inr h
theorem gG_set {ρ : Nat → Int} {G : List (Int × Int)} {k : Nat} {lo hi : Int} (hG : gG ρ G) (h : lo ≤ ρ k ∧ ρ k ≤ hi) : gG ρ (setl G k (lo, hi)) := by
  intro i l u hi'
  rcases nth_setl _ _ _ _ _ hi' with ⟨rfl, e⟩ | e
  · cases e; exact h
  · exact hG i l u e
section ABS2
variable {ρ : Nat → Int} {τ : Nat → List (Option Nat)} {m0 : Int} {K Kt Kf : Sg → Bool} {k kt kf : Blk} {G : List (Int × Int)} {x y : AV} {v w : Int32} {a b c d u δ : Int}
theorem capHi_ok (hG : gG ρ G) (hx : gV ρ τ x (.inl v)) (h : v.toInt ≤ u) : gG ρ (capHi G x u) := by
  unfold capHi
  split
  · split
    · rename_i hk
      split
      · exact hG
      · obtain ⟨v', e1, hv⟩ := hx
        cases e1
        have := hG _ _ _ hk
        exact gG_set hG ⟨this.1, by omega⟩
    · exact hG
  · exact hG
theorem capLo_ok (hG : gG ρ G) (hx : gV ρ τ x (.inl v)) (h : u ≤ v.toInt) : gG ρ (capLo G x u) := by
  unfold capLo
  split
  · split
    · rename_i hk
      split
      · exact hG
      · obtain ⟨v', e1, hv⟩ := hx
        cases e1
        have := hG _ _ _ hk
        exact gG_set hG ⟨by omega, this.2⟩
    · exact hG
  · exact hG
def leR (G : List (Int × Int)) (x y : AV) (a d δ : Int) : Option (List (Int × Int)) := match ile (a + δ) d with
  | true => some (capHi (capLo G y (a + δ)) x (d - δ))
  | false => none
theorem leR_ok (hG : gG ρ G) (hx : gV ρ τ x (.inl v)) (hy : gV ρ τ y (.inl w)) (h1 : a ≤ v.toInt) (h2 : w.toInt ≤ d) (h : v.toInt + δ ≤ w.toInt) : ∃ G', leR G x y a d δ = some G' ∧ gG ρ G' := by
  unfold leR
  split
  · exact ⟨_, rfl, capHi_ok (capLo_ok hG hy (by omega)) hx (by omega)⟩
  · rename_i h3
    exact absurd (of_decide_eq_false h3) (by omega)
def neR (G : List (Int × Int)) (x : AV) (a b c d : Int) : Option (List (Int × Int)) := match ieq c d with
  | true => match ieq a c with
    | true => match ieq a b with
      | true => none
      | false => some (capLo G x (a + 1))
    | false => match ieq b c with
      | true => some (capHi G x (b - 1))
      | false => some G
  | false => some G
theorem neR_ok (hG : gG ρ G) (hx : gV ρ τ x (.inl v)) (h1 : a ≤ v.toInt ∧ v.toInt ≤ b) (h2 : c ≤ w.toInt ∧ w.toInt ≤ d) (h : ¬ v.toInt = w.toInt) : ∃ G', neR G x a b c d = some G' ∧ gG ρ G' := by
  unfold neR
  split
  · rename_i e1
    have e1 := of_decide_eq_true e1
    split
    · rename_i e2
      have e2 := of_decide_eq_true e2
      split
      · rename_i e3
        have e3 := of_decide_eq_true e3
        exact absurd h (by omega)
      · exact ⟨_, rfl, capLo_ok hG hx (by omega)⟩
    · split
      · rename_i e2
        have e2 := of_decide_eq_true e2
        exact ⟨_, rfl, capHi_ok hG hx (by omega)⟩
      · exact ⟨_, rfl, hG⟩
  · exact ⟨_, rfl, hG⟩
def refC (q : Nat) (G : List (Int × Int)) (x y : AV) (a b c d : Int) : Option (List (Int × Int)) := match q with
  | 0 => match leR G x y a d 0 with
    | some G' => leR G' y x c b 0
    | none => none
  | 1 => leR G x y a d 1
  | 2 => leR G y x c b 0
  | 3 => leR G y x c b 1
  | 4 => leR G x y a d 0
  | _ => neR G x a b c d
theorem refC_ok {q : Nat} (hG : gG ρ G) (hx : gV ρ τ x (.inl v)) (hy : gV ρ τ y (.inl w)) (h1 : a ≤ v.toInt ∧ v.toInt ≤ b) (h2 : c ≤ w.toInt ∧ w.toInt ≤ d) (h : relI q v.toInt w.toInt) : ∃ G', refC q G x y a b c d = some G' ∧ gG ρ G' := by
  match q, h with
  | 0, h =>
    have h : v.toInt = w.toInt := h
    obtain ⟨G1, e1, hG1⟩ := leR_ok (δ := 0) hG hx hy h1.1 h2.2 (by omega)
    obtain ⟨G2, e2, hG2⟩ := leR_ok (δ := 0) hG1 hy hx h2.1 h1.2 (by omega)
    exact ⟨G2, by show (match leR G x y a d 0 with | some G' => leR G' y x c b 0 | none => none) = some G2; rw [e1]; exact e2, hG2⟩
  | 1, h => exact leR_ok hG hx hy h1.1 h2.2 (by have h : v.toInt < w.toInt := h; omega)
  | 2, h => exact leR_ok hG hy hx h2.1 h1.2 (by have h : w.toInt ≤ v.toInt := h; omega)
  | 3, h => exact leR_ok hG hy hx h2.1 h1.2 (by have h : w.toInt < v.toInt := h; omega)
  | 4, h => exact leR_ok hG hx hy h1.1 h2.2 (by have h : v.toInt ≤ w.toInt := h; omega)
  | _ + 5, h => exact neR_ok hG hx h1 h2 h
def brK (o : Option (List (Int × Int))) (K : Sg → Bool) (σ : Sg) : Bool := match o with
  | some G => K (sG σ G)
  | none => true
def a_icmp (q : Nat) (Kt Kf : Sg → Bool) (σ : Sg) : Bool := match σ.2.2.2.1 with
  | y :: x :: r => match iv σ.1 x, iv σ.1 y with
    | some (a, b), some (c, d) => Nat.ble q 4 && (brK (refC q σ.1 x y a b c d) Kt (sS σ r) && brK (refC (negI q) σ.1 x y a b c d) Kf (sS σ r))
    | _, _ => false
  | _ => false
def a_if (q : Nat) (Kt Kf : Sg → Bool) (σ : Sg) : Bool := match σ.2.2.2.1 with
  | x :: r => match iv σ.1 x with
    | some (a, b) => Nat.ble q 4 && (brK (refC q σ.1 x (.inl (0, 0)) a b 0 0) Kt (sS σ r) && brK (refC (negI q) σ.1 x (.inl (0, 0)) a b 0 0) Kf (sS σ r))
    | _ => false
  | _ => false
def o_swc (v : Int32) (k kr : Blk) : Blk := fun L st h => match st with
  | .inl x :: r => (x = v → k L r h) ∧ (¬ x = v → kr L (.inl x :: r) h)
  | _ => False
def o_swd (k : Blk) : Blk := fun L st h => match st with
  | .inl _ :: r => k L r h
  | _ => False
def a_swc (v : Int32) (n : Int) (Kt Kf : Sg → Bool) (σ : Sg) : Bool := match σ.2.2.2.1 with
  | x :: r => match iv σ.1 x with
    | some (a, b) => ieq v.toInt n && (brK (refC 0 σ.1 x (.inl (n, n)) a b n n) Kt (sS σ r) && brK (refC 5 σ.1 x (.inl (n, n)) a b n n) Kf σ)
    | _ => false
  | _ => false
def a_swd (K : Sg → Bool) (σ : Sg) : Bool := match σ.2.2.2.1 with
  | x :: r => match iv σ.1 x with
    | some _ => K (sS σ r)
    | _ => false
  | _ => false
theorem s_icmp {q : Nat} (ht : ∀ σ, Kt σ = true → Sf τ m0 kt σ) (hf : ∀ σ, Kf σ = true → Sf τ m0 kf σ) (σ : Sg) (h : a_icmp q Kt Kf σ = true) : Sf τ m0 (o_icmp (cB q) kt kf) σ := by
  intro ρ L st hp hS
  obtain ⟨G, F, La, sa, Ha⟩ := σ
  obtain ⟨hG, hF, h1, h2, h3⟩ := hS
  unfold a_icmp at h
  rcases sa with _ | ⟨y, _ | ⟨x, r⟩⟩
  · cases h
  · cases h
  · dsimp only at h
    split at h
    · rename_i a b c d e1 e2
      rw [Bool.and_eq_true, Bool.and_eq_true] at h
      obtain ⟨hq, hA, hB⟩ := h
      obtain ⟨v, st', rfl, hv, h2a⟩ := all2_cons h2
      obtain ⟨w, st'', rfl, hw, h2b⟩ := all2_cons h2a
      obtain ⟨v', rfl, hv'⟩ := iv_ok hG e2 hv
      obtain ⟨w', rfl, hw'⟩ := iv_ok hG e1 hw
      refine And.intro (fun hc => ?_) (fun hc => ?_)
      · obtain ⟨G', eG, hG'⟩ := refC_ok hG hw hv hw' hv' (cB_t hq hc)
        rw [eG] at hA
        exact ht _ hA ρ L st'' hp ⟨hG', hF, h1, h2b, h3⟩
      · obtain ⟨G', eG, hG'⟩ := refC_ok hG hw hv hw' hv' (cB_f hq hc)
        rw [eG] at hB
        exact hf _ hB ρ L st'' hp ⟨hG', hF, h1, h2b, h3⟩
    · cases h
theorem s_if {q : Nat} (ht : ∀ σ, Kt σ = true → Sf τ m0 kt σ) (hf : ∀ σ, Kf σ = true → Sf τ m0 kf σ) (σ : Sg) (h : a_if q Kt Kf σ = true) : Sf τ m0 (o_if (fun x => cB q x 0) kt kf) σ := by
  intro ρ L st hp hS
  obtain ⟨G, F, La, sa, Ha⟩ := σ
  obtain ⟨hG, hF, h1, h2, h3⟩ := hS
  unfold a_if at h
  rcases sa with _ | ⟨x, r⟩
  · cases h
  · dsimp only at h
    split at h
    · rename_i a b e1
      rw [Bool.and_eq_true, Bool.and_eq_true] at h
      obtain ⟨hq, hA, hB⟩ := h
      obtain ⟨w, st'', rfl, hw, h2b⟩ := all2_cons h2
      obtain ⟨w', rfl, hw'⟩ := iv_ok hG e1 hw
      have hz : gV ρ τ (.inl (0, 0)) (.inl (0 : Int32)) := ⟨0, rfl, Int.le_refl _, Int.le_refl _⟩
      have hz' : (0 : Int) ≤ (0 : Int32).toInt ∧ (0 : Int32).toInt ≤ 0 := ⟨Int.le_refl _, Int.le_refl _⟩
      refine And.intro (fun hc => ?_) (fun hc => ?_)
      · obtain ⟨G', eG, hG'⟩ := refC_ok hG hw hz hw' hz' (cB_t hq hc)
        rw [eG] at hA
        exact ht _ hA ρ L st'' hp ⟨hG', hF, h1, h2b, h3⟩
      · obtain ⟨G', eG, hG'⟩ := refC_ok hG hw hz hw' hz' (cB_f hq hc)
        rw [eG] at hB
        exact hf _ hB ρ L st'' hp ⟨hG', hF, h1, h2b, h3⟩
    · cases h
theorem s_swc {n : Int} (ht : ∀ σ, Kt σ = true → Sf τ m0 kt σ) (hf : ∀ σ, Kf σ = true → Sf τ m0 kf σ) (σ : Sg) (h : a_swc v n Kt Kf σ = true) : Sf τ m0 (o_swc v kt kf) σ := by
  intro ρ L st hp hS
  obtain ⟨G, F, La, sa, Ha⟩ := σ
  obtain ⟨hG, hF, h1, h2, h3⟩ := hS
  unfold a_swc at h
  rcases sa with _ | ⟨x, r⟩
  · cases h
  · dsimp only at h
    split at h
    · rename_i a b e1
      rw [Bool.and_eq_true, Bool.and_eq_true] at h
      obtain ⟨hq, hA, hB⟩ := h
      have hq := of_decide_eq_true hq
      obtain ⟨w, st'', rfl, hw, h2b⟩ := all2_cons h2
      obtain ⟨w', rfl, hw'⟩ := iv_ok hG e1 hw
      have hz : gV ρ τ (.inl (n, n)) (.inl v) := ⟨v, rfl, by omega, by omega⟩
      have hz' : n ≤ v.toInt ∧ v.toInt ≤ n := ⟨by omega, by omega⟩
      refine And.intro (fun hc => ?_) (fun hc => ?_)
      · obtain ⟨G', eG, hG'⟩ := refC_ok (q := 0) hG hw hz hw' hz' (i32eq.mp hc)
        rw [eG] at hA
        exact ht _ hA ρ L st'' hp ⟨hG', hF, h1, h2b, h3⟩
      · obtain ⟨G', eG, hG'⟩ := refC_ok (q := 5) hG hw hz hw' hz' (fun z => hc (i32eq.mpr z))
        rw [eG] at hB
        exact hf _ hB ρ L _ hp ⟨hG', hF, h1, ⟨hw, h2b⟩, h3⟩
    · cases h
theorem s_swd (hk : ∀ σ, K σ = true → Sf τ m0 k σ) (σ : Sg) (h : a_swd K σ = true) : Sf τ m0 (o_swd k) σ := by
  intro ρ L st hp hS
  obtain ⟨G, F, La, sa, Ha⟩ := σ
  obtain ⟨hG, hF, h1, h2, h3⟩ := hS
  unfold a_swd at h
  rcases sa with _ | ⟨x, r⟩
  · cases h
  · dsimp only at h
    split at h
    · rename_i q e1
      obtain ⟨w, st'', rfl, hw, h2b⟩ := all2_cons h2
      obtain ⟨w', rfl, hw'⟩ := iv_ok (lo := q.1) (hi := q.2) hG e1 hw
      exact hk _ h ρ L st'' hp ⟨hG, hF, h1, h2b, h3⟩
    · cases h
end ABS2
