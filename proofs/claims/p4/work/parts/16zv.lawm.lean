/-! ===== a law's text: what may stand where ===== -/
/-- digits of a number: so many more may come -/
def dgE (b : Nat → Nat) (n : Nat) : Nat → Nat → (Nat × Nat) ⊕ Nat
  | 0, q => if dg b n q = true then .inl (2, q) else .inr q
  | f + 1, q => if dg b n q = true then dgE b n f (q + 1) else .inr q
/-- a sign between two numbers; a letter that tells a number -/
abbrev sgL (x : Nat) : Prop := x = 43 ∨ x = 45 ∨ x = 42 ∨ x = 47 ∨ x = 37
abbrev fcL (x : Nat) : Prop := x = 115 ∨ x = 109 ∨ x = 103 ∨ x = 117 ∨ x = 100 ∨ x = 110 ∨ x = 108 ∨ x = 116 ∨ x = 119
/-- where the reading stands (0 a rule begins, 1 a number is wanted, 2 behind one, 3 a condition is wanted, 4 a test is wanted, 5 behind a piece, 6 behind a test, 7 behind a rule); which sum it is (0 what a rule is worth, 1 and 2 what is compared); the place; how many rules; the brackets that are open (0 of a sum, 1 of a test, 2 a sign that turns one over) -/
abbrev LwS : Type := Nat × Nat × Nat × Nat × List Nat
abbrev LRs : Type := (Nat × Nat) ⊕ Nat
def lwB (b : Nat → Nat) (n k p m : Nat) : List Nat → LRs ⊕ LwS
  | 0 :: r => if hr b n p = 93 then .inr (2, k, p + 1, m, r) else .inl (.inl (1, p))
  | s => if k = 0 then .inr (3, 0, p, m, s) else if k = 1 then (if hr b n p = 60 ∨ hr b n p = 62 ∨ hr b n p = 61 then .inr (1, 2, p + 1, m, s) else .inl (.inl (1, p))) else .inr (5, 0, p, m, s)
def lwTn (p m : Nat) : List Nat → LRs ⊕ LwS
  | 2 :: r => .inr (5, 0, p, m, r)
  | s => .inr (6, 0, p, m, s)
def lwC (p m : Nat) : List Nat → LRs ⊕ LwS
  | _ :: x :: r => .inr (5, 0, p + 1, m, x :: r)
  | _ => .inr (7, 0, p + 1, m, [])
def lwS (b : Nat → Nat) (n : Nat) : LwS → LRs ⊕ LwS
  | (0, _, p, m, _) => if hr b n p = 112 ∨ hr b n p = 104 ∨ hr b n p = 120 then (if m = 16 then .inl (.inl (4, p)) else if hr b n p = 120 then .inr (3, 0, p + 1, m, []) else .inr (1, 0, p + 1, m, [])) else .inl (.inl (1, p))
  | (1, k, p, m, s) => if hr b n p = 91 then (if s.length = 6 then .inl (.inl (5, p)) else .inr (1, k, p + 1, m, 0 :: s)) else if dg b n p = true then (match dgE b n 5 p with
    | .inl f => .inl (.inl f)
    | .inr q => .inr (2, k, q, m, s)) else if fcL (hr b n p) then .inr (2, k, p + 1, m, s) else .inl (.inl (1, p))
  | (2, k, p, m, s) => if sgL (hr b n p) then .inr (1, k, p + 1, m, s) else lwB b n k p m s
  | (3, _, p, m, _) => if hr b n p = 40 then .inr (4, 0, p + 1, m, [1]) else .inl (.inl (1, p))
  | (4, _, p, m, s) => if hr b n p = 33 ∨ hr b n p = 40 then (if s.length = 6 then .inl (.inl (5, p)) else .inr (4, 0, p + 1, m, (if hr b n p = 33 then 2 else 1) :: s)) else .inr (1, 1, p, m, s)
  | (5, _, p, m, s) => lwTn p m s
  | (6, _, p, m, s) => if hr b n p = 41 then lwC p m s else if hr b n p = 38 ∨ hr b n p = 124 then .inr (4, 0, p + 1, m, s) else .inl (.inl (1, p))
  | (_, _, p, m, _) => if n ≤ p then .inl (.inr (m + 1)) else if hr b n p = 59 then .inr (0, 0, p + 1, m + 1, []) else .inl (.inl (1, p))
def lwG (b : Nat → Nat) (n : Nat) : Nat → LwS → LRs
  | 0, _ => .inl (0, 0)
  | f + 1, s => match lwS b n s with
    | .inl r => r
    | .inr s' => lwG b n f s'
/-- so many steps lead from one state to another; to an end -/
def lT (b : Nat → Nat) (n : Nat) (s s' : LwS) : Prop := ∃ j, ∀ f, lwG b n (f + j) s = lwG b n f s'
def lE (b : Nat → Nat) (n : Nat) (s : LwS) (r : LRs) : Prop := ∃ j, ∀ f, lwG b n (f + j) s = r
theorem lT_0 {b : Nat → Nat} {n : Nat} {s : LwS} : lT b n s s := ⟨0, fun _ => rfl⟩
theorem lT_1 {b : Nat → Nat} {n : Nat} {s s' : LwS} (h : lwS b n s = .inr s') : lT b n s s' := ⟨1, fun f => by
  show (match lwS b n s with
    | .inl r => r
    | .inr s' => lwG b n f s') = _
  rw [h]⟩
theorem lE_1 {b : Nat → Nat} {n : Nat} {s : LwS} {r : LRs} (h : lwS b n s = .inl r) : lE b n s r := ⟨1, fun f => by
  show (match lwS b n s with
    | .inl r => r
    | .inr s' => lwG b n f s') = _
  rw [h]⟩
theorem lT_T {b : Nat → Nat} {n : Nat} {s s' s2 : LwS} (h : lT b n s s') (h2 : lT b n s' s2) : lT b n s s2 := by
  obtain ⟨k, e⟩ := h
  obtain ⟨k2, e2⟩ := h2
  exact ⟨k2 + k, fun f => by rw [← Nat.add_assoc, e, e2]⟩
theorem lT_E {b : Nat → Nat} {n : Nat} {s s' : LwS} {r : LRs} (h : lT b n s s') (h2 : lE b n s' r) : lE b n s r := by
  obtain ⟨k, e⟩ := h
  obtain ⟨k2, e2⟩ := h2
  exact ⟨k2 + k, fun f => by rw [← Nat.add_assoc, e, e2]⟩
theorem lE_u {b : Nat → Nat} {n : Nat} {s : LwS} {r r' : LRs} (h : lE b n s r) (h' : lE b n s r') : r = r' := by
  obtain ⟨k, e⟩ := h
  obtain ⟨k', e'⟩ := h'
  rw [← e k', ← e' k, Nat.add_comm]
/-- what the whole text comes to -/
def lwE (b : Nat → Nat) (n : Nat) (r : LRs) : Prop := lE b n (0, 0, 0, 0, []) r
/-- what is answered -/
def lwY (b : Nat → Nat) (n : Nat) (y : Int32) : Prop := (∃ k a, lwE b n (.inl (k, a)) ∧ y = ftV k a) ∨ (∃ m, lwE b n (.inr m) ∧ y = nI m)
theorem lwY_eq {b : Nat → Nat} {n : Nat} {y y' : Int32} (h : lwY b n y) (h' : lwY b n y') : y = y' := by
  rcases h with ⟨k, a, e, rfl⟩ | ⟨m, e, rfl⟩ <;> rcases h' with ⟨k', a', e', rfl⟩ | ⟨m', e', rfl⟩
  · cases lE_u e e'
    rfl
  · cases lE_u e e'
  · cases lE_u e e'
  · cases lE_u e e'
    rfl
/-! ===== its steps ===== -/
theorem dgE_le {b : Nat → Nat} {n : Nat} : ∀ {f q r : Nat}, q ≤ n → dgE b n f q = .inr r → q ≤ r ∧ r ≤ n ∧ (dg b n q = true → 0 < f → q < r)
  | 0, q, r, hq, h => by
    unfold dgE at h
    split at h
    · cases h
    · cases h
      exact ⟨Nat.le_refl _, hq, fun _ z => absurd z (Nat.lt_irrefl 0)⟩
  | f + 1, q, r, hq, h => by
    unfold dgE at h
    split at h
    · rename_i hd
      have l := dg_lt hd
      have ih := dgE_le (f := f) (q := q + 1) (r := r) (by omega) h
      exact ⟨by omega, ih.2.1, fun _ _ => by omega⟩
    · rename_i hd
      cases h
      exact ⟨Nat.le_refl _, hq, fun z => absurd z hd⟩
theorem dgE_f {b : Nat → Nat} {n : Nat} : ∀ {f q k a : Nat}, dgE b n f q = .inl (k, a) → k = 2 ∧ a < n
  | 0, q, k, a, h => by
    unfold dgE at h
    split at h
    · rename_i hd
      cases h
      exact ⟨rfl, dg_lt hd⟩
    · cases h
  | f + 1, q, k, a, h => by
    unfold dgE at h
    split at h
    · exact dgE_f (f := f) h
    · cases h
theorem l_open {b : Nat → Nat} {n k p m : Nat} {s : List Nat} (h : hr b n p = 91) (hs : ¬ s.length = 6) : lT b n (1, k, p, m, s) (1, k, p + 1, m, 0 :: s) := lT_1 (by
  show (if hr b n p = 91 then _ else _) = _
  rw [if_pos h, if_neg hs])
theorem l_deep {b : Nat → Nat} {n k p m : Nat} {s : List Nat} (h : hr b n p = 91) (hs : s.length = 6) : lE b n (1, k, p, m, s) (.inl (5, p)) := lE_1 (by
  show (if hr b n p = 91 then _ else _) = _
  rw [if_pos h, if_pos hs])
theorem l_num {b : Nat → Nat} {n k p m q : Nat} {s : List Nat} (h : dg b n p = true) (e : dgE b n 5 p = .inr q) : lT b n (1, k, p, m, s) (2, k, q, m, s) := lT_1 (by
  have g := dg_t.mp h
  show (if hr b n p = 91 then _ else _) = _
  rw [if_neg (by omega), if_pos h, e])
theorem l_long {b : Nat → Nat} {n k p m : Nat} {s : List Nat} {x : Nat × Nat} (h : dg b n p = true) (e : dgE b n 5 p = .inl x) : lE b n (1, k, p, m, s) (.inl x) := lE_1 (by
  have g := dg_t.mp h
  show (if hr b n p = 91 then _ else _) = _
  rw [if_neg (by omega), if_pos h, e])
theorem l_fact {b : Nat → Nat} {n k p m : Nat} {s : List Nat} (h : fcL (hr b n p)) : lT b n (1, k, p, m, s) (2, k, p + 1, m, s) := lT_1 (by
  have nd : ¬ dg b n p = true := fun z => by
    have g := dg_t.mp z
    omega
  show (if hr b n p = 91 then _ else _) = _
  rw [if_neg (by omega), if_neg nd, if_pos h])
theorem l_none {b : Nat → Nat} {n k p m : Nat} {s : List Nat} (h : ¬ hr b n p = 91) (h1 : ¬ dg b n p = true) (h2 : ¬ fcL (hr b n p)) : lE b n (1, k, p, m, s) (.inl (1, p)) := lE_1 (by
  show (if hr b n p = 91 then _ else _) = _
  rw [if_neg h, if_neg h1, if_neg h2])
theorem l_sign {b : Nat → Nat} {n k p m : Nat} {s : List Nat} (h : sgL (hr b n p)) : lT b n (2, k, p, m, s) (1, k, p + 1, m, s) := lT_1 (by
  show (if sgL (hr b n p) then _ else _) = _
  rw [if_pos h])
theorem l_shut {b : Nat → Nat} {n k p m : Nat} {s : List Nat} (h : hr b n p = 93) : lT b n (2, k, p, m, 0 :: s) (2, k, p + 1, m, s) := lT_1 (by
  show (if sgL (hr b n p) then _ else _) = _
  rw [if_neg (by omega)]
  exact if_pos h)
theorem l_nshut {b : Nat → Nat} {n k p m : Nat} {s : List Nat} (h1 : ¬ sgL (hr b n p)) (h : ¬ hr b n p = 93) : lE b n (2, k, p, m, 0 :: s) (.inl (1, p)) := lE_1 (by
  show (if sgL (hr b n p) then _ else _) = _
  rw [if_neg h1]
  exact if_neg h)
theorem lwB_n {b : Nat → Nat} {n k p m : Nat} {s : List Nat} (h : ∀ r, ¬ s = 0 :: r) : lwB b n k p m s = (if k = 0 then .inr (3, 0, p, m, s) else if k = 1 then (if hr b n p = 60 ∨ hr b n p = 62 ∨ hr b n p = 61 then .inr (1, 2, p + 1, m, s) else .inl (.inl (1, p))) else .inr (5, 0, p, m, s)) := by
  match s, h with
  | [], _ => rfl
  | 0 :: r, h => exact absurd rfl (h r)
  | (x + 1) :: r, _ => rfl
theorem l_worth {b : Nat → Nat} {n p m : Nat} (h1 : ¬ sgL (hr b n p)) : lT b n (2, 0, p, m, []) (3, 0, p, m, []) := lT_1 (by
  show (if sgL (hr b n p) then _ else _) = _
  rw [if_neg h1]
  rfl)
theorem l_comp {b : Nat → Nat} {n p m : Nat} {s : List Nat} (hs : ∀ r, ¬ s = 0 :: r) (h : hr b n p = 60 ∨ hr b n p = 62 ∨ hr b n p = 61) : lT b n (2, 1, p, m, s) (1, 2, p + 1, m, s) := lT_1 (by
  show (if sgL (hr b n p) then _ else _) = _
  rw [if_neg (by omega), lwB_n hs, if_neg (by decide), if_pos rfl, if_pos h])
theorem l_ncomp {b : Nat → Nat} {n p m : Nat} {s : List Nat} (hs : ∀ r, ¬ s = 0 :: r) (h1 : ¬ sgL (hr b n p)) (h : ¬ (hr b n p = 60 ∨ hr b n p = 62 ∨ hr b n p = 61)) : lE b n (2, 1, p, m, s) (.inl (1, p)) := lE_1 (by
  show (if sgL (hr b n p) then _ else _) = _
  rw [if_neg h1, lwB_n hs, if_neg (by decide), if_pos rfl, if_neg h])
theorem l_piece {b : Nat → Nat} {n p m : Nat} {s : List Nat} (hs : ∀ r, ¬ s = 0 :: r) (h1 : ¬ sgL (hr b n p)) : lT b n (2, 2, p, m, s) (5, 0, p, m, s) := lT_1 (by
  show (if sgL (hr b n p) then _ else _) = _
  rw [if_neg h1, lwB_n hs, if_neg (by decide), if_neg (by decide)])
theorem l_cond {b : Nat → Nat} {n p m : Nat} (h : hr b n p = 40) : lT b n (3, 0, p, m, []) (4, 0, p + 1, m, [1]) := lT_1 (if_pos h)
theorem l_ncond {b : Nat → Nat} {n p m : Nat} (h : ¬ hr b n p = 40) : lE b n (3, 0, p, m, []) (.inl (1, p)) := lE_1 (if_neg h)
theorem l_not {b : Nat → Nat} {n p m : Nat} {s : List Nat} (h : hr b n p = 33) (hs : ¬ s.length = 6) : lT b n (4, 0, p, m, s) (4, 0, p + 1, m, 2 :: s) := lT_1 (by
  show (if hr b n p = 33 ∨ hr b n p = 40 then _ else _) = _
  rw [if_pos (Or.inl h), if_neg hs, if_pos h])
theorem l_paren {b : Nat → Nat} {n p m : Nat} {s : List Nat} (h : hr b n p = 40) (hs : ¬ s.length = 6) : lT b n (4, 0, p, m, s) (4, 0, p + 1, m, 1 :: s) := lT_1 (by
  show (if hr b n p = 33 ∨ hr b n p = 40 then _ else _) = _
  rw [if_pos (Or.inr h), if_neg hs, if_neg (by omega)])
theorem l_tdeep {b : Nat → Nat} {n p m : Nat} {s : List Nat} (h : hr b n p = 33 ∨ hr b n p = 40) (hs : s.length = 6) : lE b n (4, 0, p, m, s) (.inl (5, p)) := lE_1 (by
  show (if hr b n p = 33 ∨ hr b n p = 40 then _ else _) = _
  rw [if_pos h, if_pos hs])
theorem l_test {b : Nat → Nat} {n p m : Nat} {s : List Nat} (h : ¬ (hr b n p = 33 ∨ hr b n p = 40)) : lT b n (4, 0, p, m, s) (1, 1, p, m, s) := lT_1 (if_neg h)
theorem l_turn {b : Nat → Nat} {n p m : Nat} {s : List Nat} : lT b n (5, 0, p, m, 2 :: s) (5, 0, p, m, s) := lT_1 rfl
theorem l_turned {b : Nat → Nat} {n p m : Nat} {s : List Nat} : lT b n (5, 0, p, m, 1 :: s) (6, 0, p, m, 1 :: s) := lT_1 rfl
theorem l_more {b : Nat → Nat} {n p m : Nat} {s : List Nat} (h : hr b n p = 38 ∨ hr b n p = 124) : lT b n (6, 0, p, m, s) (4, 0, p + 1, m, s) := lT_1 (by
  show (if hr b n p = 41 then _ else _) = _
  rw [if_neg (by omega), if_pos h])
theorem l_nmore {b : Nat → Nat} {n p m : Nat} {s : List Nat} (h : ¬ (hr b n p = 38 ∨ hr b n p = 124)) (h1 : ¬ hr b n p = 41) : lE b n (6, 0, p, m, s) (.inl (1, p)) := lE_1 (by
  show (if hr b n p = 41 then _ else _) = _
  rw [if_neg h1, if_neg h])
theorem l_close {b : Nat → Nat} {n p m x y : Nat} {s : List Nat} (h : hr b n p = 41) : lT b n (6, 0, p, m, x :: y :: s) (5, 0, p + 1, m, y :: s) := lT_1 (if_pos h)
theorem l_rule {b : Nat → Nat} {n p m x : Nat} (h : hr b n p = 41) : lT b n (6, 0, p, m, [x]) (7, 0, p + 1, m, []) := lT_1 (if_pos h)
abbrev rlL (x : Nat) : Prop := x = 112 ∨ x = 104 ∨ x = 120
theorem l_begin {b : Nat → Nat} {n p m : Nat} {s : List Nat} (h : hr b n p = 112 ∨ hr b n p = 104) (hm : ¬ m = 16) : lT b n (0, 0, p, m, s) (1, 0, p + 1, m, []) := lT_1 (by
  show (if rlL (hr b n p) then _ else _) = _
  rw [if_pos (by omega), if_neg hm, if_neg (by omega)])
theorem l_fall {b : Nat → Nat} {n p m : Nat} {s : List Nat} (h : hr b n p = 120) (hm : ¬ m = 16) : lT b n (0, 0, p, m, s) (3, 0, p + 1, m, []) := lT_1 (by
  show (if rlL (hr b n p) then _ else _) = _
  rw [if_pos (by omega), if_neg hm, if_pos h])
theorem l_many {b : Nat → Nat} {n p m : Nat} {s : List Nat} (h : rlL (hr b n p)) (hm : m = 16) : lE b n (0, 0, p, m, s) (.inl (4, p)) := lE_1 (by
  show (if rlL (hr b n p) then _ else _) = _
  rw [if_pos h, if_pos hm])
theorem l_norule {b : Nat → Nat} {n p m : Nat} {s : List Nat} (h : ¬ rlL (hr b n p)) : lE b n (0, 0, p, m, s) (.inl (1, p)) := lE_1 (if_neg h)
theorem l_end {b : Nat → Nat} {n p m : Nat} (h : n ≤ p) : lE b n (7, 0, p, m, []) (.inr (m + 1)) := lE_1 (if_pos h)
theorem l_next {b : Nat → Nat} {n p m : Nat} (h : hr b n p = 59) : lT b n (7, 0, p, m, []) (0, 0, p + 1, m + 1, []) := lT_1 (by
  have pl := hr_lt h (by omega)
  show (if n ≤ p then _ else _) = _
  rw [if_neg (by omega), if_pos h])
theorem l_nnext {b : Nat → Nat} {n p m : Nat} (h1 : ¬ n ≤ p) (h : ¬ hr b n p = 59) : lE b n (7, 0, p, m, []) (.inl (1, p)) := lE_1 (by
  show (if n ≤ p then _ else _) = _
  rw [if_neg h1, if_neg h])

