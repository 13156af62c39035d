/-! ===== a sheet's text as a machine of small steps; the class reads it so ===== -/
/-- what stands at a place; 999 behind the end -/
def hr (b : Nat → Nat) (n p : Nat) : Nat := if p < n then b p else 999
def aV (b : Nat → Nat) (n p : Nat) : Int32 := if p < n then nI (b p) else -1
theorem aV_eq {b : Nat → Nat} {n p k : Nat} (hb : ∀ i, i < n → b i ≤ 255) (hk : k ≤ 255) : aV b n p = nI k ↔ hr b n p = k := by
  unfold aV hr
  by_cases q : p < n
  · rw [if_pos q, if_pos q, nI_eq (by have := hb p q; omega) (by omega)]
  · rw [if_neg q, if_neg q]
    exact ⟨fun z => absurd z.symm (n1_k (by omega)), fun z => by omega⟩
theorem aV_in {b : Nat → Nat} {n p lo hi : Nat} (hb : ∀ i, i < n → b i ≤ 255) (hh : hi ≤ 255) (hl : lo ≤ 255) : (nI lo ≤ aV b n p ∧ aV b n p ≤ nI hi) ↔ (lo ≤ hr b n p ∧ hr b n p ≤ hi) := by
  unfold aV hr
  by_cases q : p < n
  · have := hb p q
    rw [if_pos q, if_pos q, nI_leI (by omega) (by omega), nI_leI (by omega) (by omega)]
  · rw [if_neg q, if_neg q]
    constructor
    · rintro ⟨z, _⟩
      have z := Int32.le_iff_toInt_le.mp z
      rw [nI_toInt (by omega)] at z
      have e : (-1 : Int32).toInt = -1 := rfl
      omega
    · omega
theorem hr_lt {b : Nat → Nat} {n p k : Nat} (h : hr b n p = k) (hk : k ≤ 255) : p < n := by
  unfold hr at h
  split at h
  · assumption
  · omega
theorem hr_lt2 {b : Nat → Nat} {n p : Nat} (h : hr b n p ≤ 255) : p < n := hr_lt rfl h
theorem aV_n {b : Nat → Nat} {n p : Nat} (h : hr b n p ≤ 255) : aV b n p = nI (hr b n p) := by
  have q := hr_lt2 h
  unfold aV hr
  rw [if_pos q, if_pos q]
abbrev Stk : Type := List (Nat × Nat × Nat)
abbrev SRs : Type := (Nat × Nat) ⊕ (Nat × (Nat → Nat))
/-- so many times the same; what stands m places ahead, k times -/
def flF (g : Nat → Nat) (s v : Nat) : Nat → Nat → Nat
  | 0 => g
  | k + 1 => updN (flF g s v k) (s + k) v
def cpF (g : Nat → Nat) (s m : Nat) : Nat → Nat → Nat
  | 0 => g
  | k + 1 => updN (cpF g s m k) (s + k) (cpF g s m k (s + k - m))
theorem flF_cp {g : Nat → Nat} {c v : Nat} : ∀ k, cpF (updN g c v) (c + 1) 1 k = flF g c v (k + 1)
  | 0 => rfl
  | k + 1 => by
    show updN (cpF (updN g c v) (c + 1) 1 k) (c + 1 + k) (cpF (updN g c v) (c + 1) 1 k (c + 1 + k - 1)) = updN (flF g c v (k + 1)) (c + (k + 1)) v
    rw [flF_cp k, show c + 1 + k - 1 = c + k by omega, show c + 1 + k = c + (k + 1) by omega]
    congr 1
    exact updN_s
/-- how many times: a digit ahead -/
def tmQ (b : Nat → Nat) (n p : Nat) : Nat := if 50 ≤ hr b n p ∧ hr b n p ≤ 57 then p + 1 else p
def tmN (b : Nat → Nat) (n p : Nat) : Nat := if 50 ≤ hr b n p ∧ hr b n p ≤ 57 then hr b n p - 48 else 1
/-- whole, torn or false behind the letter -/
def whN (b : Nat → Nat) (n r : Nat) : Nat := if hr b n r = 116 then 1 else if hr b n r = 102 then 0 else 2
def whQ (b : Nat → Nat) (n r : Nat) : Nat := if hr b n r = 116 then r + 1 else if hr b n r = 102 then r + 1 else r
/-- true: a stamp or a round begins; false: one has ended -/
def shG (b : Nat → Nat) (n : Nat) : Nat → Bool → Nat → Nat → (Nat → Nat) → Stk → SRs
  | 0, _, _, _, _, _ => .inl (0, 0)
  | f + 1, true, p, c, g, stk =>
    if hr b n (tmQ b n p) = 40 then (if stk.length = 2 then .inl (5, tmQ b n p) else shG b n f true (tmQ b n p + 1) c g ((p, c, tmN b n p) :: stk))
    else if 97 ≤ hr b n (tmQ b n p) ∧ hr b n (tmQ b n p) ≤ 104 then
      (if 48 < c + tmN b n p then .inl (6, p) else shG b n f false (whQ b n (tmQ b n p + 1)) (c + tmN b n p) (flF g c (3 * (hr b n (tmQ b n p) - 97) + whN b n (tmQ b n p + 1)) (tmN b n p)) stk)
    else .inl (1, tmQ b n p)
  | f + 1, false, p, c, g, [] => if n ≤ p then .inr (c, g) else shG b n f true p c g []
  | f + 1, false, p, c, g, (fr, a, tm) :: rest => if hr b n p = 41 then (if 48 < c + (c - a) * (tm - 1) then .inl (6, fr) else shG b n f false (p + 1) (c + (c - a) * (tm - 1)) (cpF g c (c - a) ((c - a) * (tm - 1))) rest) else shG b n f true p c g ((fr, a, tm) :: rest)
theorem tm_le {b : Nat → Nat} {n p : Nat} (hp : p ≤ n) : p ≤ tmQ b n p ∧ tmQ b n p ≤ n ∧ 1 ≤ tmN b n p ∧ tmN b n p ≤ 9 := by
  unfold tmQ tmN
  by_cases q : 50 ≤ hr b n p ∧ hr b n p ≤ 57
  · rw [if_pos q, if_pos q]
    have := hr_lt2 (b := b) (n := n) (p := p) (by omega)
    omega
  · rw [if_neg q, if_neg q]
    omega
theorem wh_le {b : Nat → Nat} {n r : Nat} (hp : r ≤ n) : r ≤ whQ b n r ∧ whQ b n r ≤ n ∧ whN b n r ≤ 2 := by
  unfold whQ whN
  by_cases q : hr b n r = 116
  · rw [if_pos q, if_pos q]
    have := hr_lt q (by omega)
    omega
  · rw [if_neg q, if_neg q]
    by_cases q2 : hr b n r = 102
    · rw [if_pos q2, if_pos q2]
      have := hr_lt q2 (by omega)
      omega
    · rw [if_neg q2, if_neg q2]
      omega
/-- so many steps lead from one state to another; to a fault -/
def goT (b : Nat → Nat) (n : Nat) (m : Bool) (p c : Nat) (g : Nat → Nat) (stk : Stk) (m' : Bool) (p' c' : Nat) (g' : Nat → Nat) (stk' : Stk) : Prop := ∃ k, ∀ f, shG b n (f + k) m p c g stk = shG b n f m' p' c' g' stk'
def goF (b : Nat → Nat) (n : Nat) (m : Bool) (p c : Nat) (g : Nat → Nat) (stk : Stk) (num at_ : Nat) : Prop := ∃ k, ∀ f, shG b n (f + k) m p c g stk = .inl (num, at_)
theorem goT_0 {b : Nat → Nat} {n : Nat} {m : Bool} {p c : Nat} {g : Nat → Nat} {stk : Stk} : goT b n m p c g stk m p c g stk := ⟨0, fun _ => rfl⟩
theorem goT_go {b : Nat → Nat} {n : Nat} {m m' m2 : Bool} {p c p' c' p2 c2 : Nat} {g g' g2 : Nat → Nat} {stk stk' stk2 : Stk} (h : goT b n m p c g stk m' p' c' g' stk') (h2 : goT b n m' p' c' g' stk' m2 p2 c2 g2 stk2) : goT b n m p c g stk m2 p2 c2 g2 stk2 := by
  obtain ⟨k, e⟩ := h
  obtain ⟨k2, e2⟩ := h2
  exact ⟨k2 + k, fun f => by rw [← Nat.add_assoc, e, e2]⟩
theorem goT_F {b : Nat → Nat} {n : Nat} {m m' : Bool} {p c p' c' : Nat} {g g' : Nat → Nat} {stk stk' : Stk} {num at_ : Nat} (h : goT b n m p c g stk m' p' c' g' stk') (h2 : goF b n m' p' c' g' stk' num at_) : goF b n m p c g stk num at_ := by
  obtain ⟨k, e⟩ := h
  obtain ⟨k2, e2⟩ := h2
  exact ⟨k2 + k, fun f => by rw [← Nat.add_assoc, e, e2]⟩
theorem st_open {b : Nat → Nat} {n p c : Nat} {g : Nat → Nat} {stk : Stk} (h : hr b n (tmQ b n p) = 40) (hs : ¬ stk.length = 2) : goT b n true p c g stk true (tmQ b n p + 1) c g ((p, c, tmN b n p) :: stk) := ⟨1, fun f => by
  show (if hr b n (tmQ b n p) = 40 then _ else _) = _
  rw [if_pos h, if_neg hs]⟩
theorem st_deep {b : Nat → Nat} {n p c : Nat} {g : Nat → Nat} {stk : Stk} (h : hr b n (tmQ b n p) = 40) (hs : stk.length = 2) : goF b n true p c g stk 5 (tmQ b n p) := ⟨1, fun f => by
  show (if hr b n (tmQ b n p) = 40 then _ else _) = _
  rw [if_pos h, if_pos hs]⟩
theorem st_bad {b : Nat → Nat} {n p c : Nat} {g : Nat → Nat} {stk : Stk} (h : ¬ hr b n (tmQ b n p) = 40) (h2 : ¬ (97 ≤ hr b n (tmQ b n p) ∧ hr b n (tmQ b n p) ≤ 104)) : goF b n true p c g stk 1 (tmQ b n p) := ⟨1, fun f => by
  show (if hr b n (tmQ b n p) = 40 then _ else _) = _
  rw [if_neg h, if_neg h2]⟩
theorem st_many {b : Nat → Nat} {n p c : Nat} {g : Nat → Nat} {stk : Stk} (h2 : 97 ≤ hr b n (tmQ b n p) ∧ hr b n (tmQ b n p) ≤ 104) (h3 : 48 < c + tmN b n p) : goF b n true p c g stk 6 p := ⟨1, fun f => by
  show (if hr b n (tmQ b n p) = 40 then _ else _) = _
  rw [if_neg (by omega), if_pos h2, if_pos h3]⟩
theorem st_stamp {b : Nat → Nat} {n p c : Nat} {g : Nat → Nat} {stk : Stk} (h2 : 97 ≤ hr b n (tmQ b n p) ∧ hr b n (tmQ b n p) ≤ 104) (h3 : ¬ 48 < c + tmN b n p) : goT b n true p c g stk false (whQ b n (tmQ b n p + 1)) (c + tmN b n p) (flF g c (3 * (hr b n (tmQ b n p) - 97) + whN b n (tmQ b n p + 1)) (tmN b n p)) stk := ⟨1, fun f => by
  show (if hr b n (tmQ b n p) = 40 then _ else _) = _
  rw [if_neg (by omega), if_pos h2, if_neg h3]⟩
theorem st_next0 {b : Nat → Nat} {n p c : Nat} {g : Nat → Nat} (h : ¬ n ≤ p) : goT b n false p c g [] true p c g [] := ⟨1, fun f => by
  show (if n ≤ p then _ else _) = _
  rw [if_neg h]⟩
theorem st_next {b : Nat → Nat} {n p c : Nat} {g : Nat → Nat} {fr a tm : Nat} {rest : Stk} (h : ¬ hr b n p = 41) : goT b n false p c g ((fr, a, tm) :: rest) true p c g ((fr, a, tm) :: rest) := ⟨1, fun f => by
  show (if hr b n p = 41 then _ else _) = _
  rw [if_neg h]⟩
theorem st_cfull {b : Nat → Nat} {n p c : Nat} {g : Nat → Nat} {fr a tm : Nat} {rest : Stk} (h : hr b n p = 41) (h2 : 48 < c + (c - a) * (tm - 1)) : goF b n false p c g ((fr, a, tm) :: rest) 6 fr := ⟨1, fun f => by
  show (if hr b n p = 41 then _ else _) = _
  rw [if_pos h, if_pos h2]⟩
theorem st_close {b : Nat → Nat} {n p c : Nat} {g : Nat → Nat} {fr a tm : Nat} {rest : Stk} (h : hr b n p = 41) (h2 : ¬ 48 < c + (c - a) * (tm - 1)) : goT b n false p c g ((fr, a, tm) :: rest) false (p + 1) (c + (c - a) * (tm - 1)) (cpF g c (c - a) ((c - a) * (tm - 1))) rest := ⟨1, fun f => by
  show (if hr b n p = 41 then _ else _) = _
  rw [if_pos h, if_neg h2]⟩
/-- what the whole text comes to -/
def shE (b : Nat → Nat) (n : Nat) (r : SRs) : Prop := ∃ k, ∀ f, shG b n (f + k) true 0 0 (fun _ => 0) [] = r
theorem shE_u {b : Nat → Nat} {n : Nat} {r r' : SRs} (h : shE b n r) (h' : shE b n r') : r = r' := by
  obtain ⟨k, e⟩ := h
  obtain ⟨k', e'⟩ := h'
  rw [← e k', ← e' k, Nat.add_comm]
theorem shE_F {b : Nat → Nat} {n num at_ : Nat} (h : goF b n true 0 0 (fun _ => 0) [] num at_) : shE b n (.inl (num, at_)) := h
theorem shE_T {b : Nat → Nat} {n p c : Nat} {g : Nat → Nat} (h : goT b n true 0 0 (fun _ => 0) [] false p c g []) (hp : n ≤ p) : shE b n (.inr (c, g)) := by
  obtain ⟨k, e⟩ := h
  refine ⟨1 + k, fun f => ?_⟩
  rw [← Nat.add_assoc, e]
  show (if n ≤ p then _ else _) = _
  rw [if_pos hp]

