/-! ===== the rest of the arithmetic ===== -/
def fU (f : Nat) : Int32 → Int32 := match f with
  | 0 => f_neg
  | 1 => f_i2b
  | _ => f_i2c
def a_un (f : Nat) (K : Sg → Bool) (σ : Sg) : Bool := match σ.2.2.2.1 with
  | x :: r => match iv σ.1 x with
    | some (a, b) => match f with
      | 0 => match ile (-2147483647) a with
        | true => K (sS σ (.inl (-b, -a) :: r))
        | false => K (sS σ (topA :: r))
      | 1 => K (sS σ (.inl (-128, 127) :: r))
      | _ => K (sS σ (topA :: r))
    | none => false
  | _ => false
def nz (c d : Int) : Bool := ile 1 c || ile d (-1)
def divA (a b c d : Int) : AV := match ile 0 a && ile 1 c with
  | true => .inl (a / d, b / c)
  | false => topA
def remA (a b c d : Int) : AV := match ile 0 a && ile 1 c with
  | true => match ieq a b && ieq c d with
    | true => .inl (a % c, a % c)
    | false => .inl (0, minI b (d - 1))
  | false => topA
def a_div (K : Sg → Bool) (σ : Sg) : Bool := match σ.2.2.2.1 with
  | y :: x :: r => match iv σ.1 x, iv σ.1 y with
    | some (a, b), some (c, d) => nz c d && K (sS σ (divA a b c d :: r))
    | _, _ => false
  | _ => false
def a_rem (K : Sg → Bool) (σ : Sg) : Bool := match σ.2.2.2.1 with
  | y :: x :: r => match iv σ.1 x, iv σ.1 y with
    | some (a, b), some (c, d) => nz c d && K (sS σ (remA a b c d :: r))
    | _, _ => false
  | _ => false
def a_mmax (K : Sg → Bool) (σ : Sg) : Bool := match σ.2.2.2.1 with
  | y :: x :: r => match iv σ.1 x, iv σ.1 y with
    | some (a, b), some (c, d) => Nat.ble r.length 8 && K (sS σ (.inl (maxI a c, maxI b d) :: r))
    | _, _ => false
  | _ => false
def a_mmin (K : Sg → Bool) (σ : Sg) : Bool := match σ.2.2.2.1 with
  | y :: x :: r => match iv σ.1 x, iv σ.1 y with
    | some (a, b), some (c, d) => Nat.ble r.length 8 && K (sS σ (.inl (minI a c, minI b d) :: r))
    | _, _ => false
  | _ => false
def a_mabs (K : Sg → Bool) (σ : Sg) : Bool := match σ.2.2.2.1 with
  | x :: r => match iv σ.1 x with
    | some (a, b) => Nat.ble r.length 8 && (match ile (-2147483647) a with
      | true => K (sS σ (.inl (0, maxI b (-a)) :: r))
      | false => K (sS σ (topA :: r)))
    | none => false
  | _ => false
section ABS6
variable {τ : Nat → List (Option Nat)} {m0 : Int} {K : Sg → Bool} {k : Blk}
theorem s_un {f : Nat} (hk : ∀ σ, K σ = true → Sf τ m0 k σ) (σ : Sg) (h : a_un f K σ = true) : Sf τ m0 (o_un (fU f) k) σ := by
  intro ρ L st hp hS
  obtain ⟨G, F, La, sa, Ha⟩ := σ
  obtain ⟨hG, hF, h1, h2, h3⟩ := hS
  rcases sa with _ | ⟨x, r⟩
  · cases h
  · unfold a_un at h
    dsimp only at h
    split at h
    · rename_i a b e1
      obtain ⟨w, st'', rfl, hw, h2b⟩ := all2_cons h2
      obtain ⟨v, rfl, hv⟩ := iv_ok hG e1 hw
      match f, h with
      | 0, h =>
        have h : (match ile (-2147483647) a with | true => K (sS (G, F, La, x :: r, Ha) (.inl (-b, -a) :: r)) | false => K (sS (G, F, La, x :: r, Ha) (topA :: r))) = true := h
        split at h
        · rename_i ha
          have ha := of_decide_eq_true ha
          have e : (fU 0 v).toInt = -v.toInt := by
            show (-v).toInt = _
            rw [Int32.toInt_neg, bm (by have := i32hi v; omega) (by omega)]
          exact hk _ h ρ L _ hp ⟨hG, hF, h1, ⟨⟨_, rfl, by omega, by omega⟩, h2b⟩, h3⟩
        · exact hk _ h ρ L _ hp ⟨hG, hF, h1, ⟨topA_ok _, h2b⟩, h3⟩
      | 1, h =>
        have e : (fU 1 v).toInt = v.toInt8.toInt := Int8.toInt_toInt32 _
        have g1 := Int8.le_toInt v.toInt8
        have g2 := Int8.toInt_lt v.toInt8
        exact hk _ h ρ L _ hp ⟨hG, hF, h1, ⟨⟨_, rfl, by omega, by omega⟩, h2b⟩, h3⟩
      | _ + 2, h => exact hk _ h ρ L _ hp ⟨hG, hF, h1, ⟨topA_ok _, h2b⟩, h3⟩
    · cases h
theorem nz_ok {c d : Int} {w : Int32} (h : nz c d = true) (hw : c ≤ w.toInt ∧ w.toInt ≤ d) : ¬ w = 0 := by
  intro e
  subst e
  unfold nz at h
  rw [Bool.or_eq_true] at h
  have e0 : (0 : Int32).toInt = 0 := rfl
  rcases h with h | h
  · have := of_decide_eq_true h; omega
  · have := of_decide_eq_true h; omega
theorem quot {v w : Int32} (h1 : 0 ≤ v.toInt) (h2 : 1 ≤ w.toInt) : (v / w).toInt = v.toInt / w.toInt ∧ 0 ≤ v.toInt / w.toInt ∧ v.toInt / w.toInt ≤ v.toInt := by
  have g1 : 0 ≤ v.toInt / w.toInt := Int.ediv_nonneg h1 (by omega)
  have g2 : v.toInt / w.toInt ≤ v.toInt := Int.ediv_le_self _ h1
  have g3 := i32hi v
  refine ⟨?_, g1, g2⟩
  rw [Int32.toInt_div, Int.tdiv_eq_ediv_of_nonneg h1, bm (by omega) (by omega)]
theorem divA_ok {ρ : Nat → Int} {a b c d : Int} {v w : Int32} (h1 : a ≤ v.toInt ∧ v.toInt ≤ b) (h2 : c ≤ w.toInt ∧ w.toInt ≤ d) : gV ρ τ (divA a b c d) (.inl (v / w)) := by
  unfold divA
  split
  · rename_i h
    rw [Bool.and_eq_true] at h
    have g1 := of_decide_eq_true h.1
    have g2 := of_decide_eq_true h.2
    obtain ⟨e, e1, e2⟩ := quot (v := v) (w := w) (by omega) (by omega)
    refine ⟨_, rfl, ?_, ?_⟩
    · rw [e]
      apply Int.le_ediv_of_mul_le (by omega)
      have m1 : a / d * w.toInt ≤ a / d * d := Int.mul_le_mul_of_nonneg_left h2.2 (Int.ediv_nonneg g1 (by omega))
      have m2 : a / d * d ≤ a := Int.ediv_mul_le _ (by omega)
      omega
    rw [e]
    apply Int.le_ediv_of_mul_le (by omega)
    have m1 : v.toInt / w.toInt * c ≤ v.toInt / w.toInt * w.toInt := Int.mul_le_mul_of_nonneg_left h2.1 e1
    have m2 : v.toInt / w.toInt * w.toInt ≤ v.toInt := Int.ediv_mul_le _ (by omega)
    omega
  · exact topA_ok _
theorem remA_ok {ρ : Nat → Int} {a b c d : Int} {v w : Int32} (h1 : a ≤ v.toInt ∧ v.toInt ≤ b) (h2 : c ≤ w.toInt ∧ w.toInt ≤ d) : gV ρ τ (remA a b c d) (.inl (v - v / w * w)) := by
  unfold remA
  split
  · rename_i h
    rw [Bool.and_eq_true] at h
    have g1 := of_decide_eq_true h.1
    have g2 := of_decide_eq_true h.2
    obtain ⟨e, e1, e2⟩ := quot (v := v) (w := w) (by omega) (by omega)
    have m2 : v.toInt / w.toInt * w.toInt ≤ v.toInt := Int.ediv_mul_le _ (by omega)
    have m3 : 0 ≤ v.toInt / w.toInt * w.toInt := Int.mul_nonneg e1 (by omega)
    have m4 : v.toInt < (v.toInt / w.toInt + 1) * w.toInt := Int.lt_ediv_add_one_mul_self _ (by omega)
    rw [Int.add_mul, Int.one_mul] at m4
    have g3 := i32hi v
    have f1 : (v / w * w).toInt = v.toInt / w.toInt * w.toInt := by
      rw [Int32.toInt_mul, e, bm (by omega) (by omega)]
    have f2 : (v - v / w * w).toInt = v.toInt - v.toInt / w.toInt * w.toInt := by
      rw [Int32.toInt_sub, f1, bm (by omega) (by omega)]
    split
    · rename_i hq
      rw [Bool.and_eq_true] at hq
      have q1 := of_decide_eq_true hq.1
      have q2 := of_decide_eq_true hq.2
      have q3 : v.toInt = a := by omega
      have q4 : w.toInt = c := by omega
      have q5 : a % c = a - a / c * c := by rw [Int.emod_def, Int.mul_comm]
      rw [q3, q4] at f2
      exact ⟨_, rfl, by omega, by omega⟩
    refine ⟨_, rfl, by omega, ?_⟩
    rw [f2]
    unfold minI
    split <;> omega
  · exact topA_ok _
theorem s_div (hk : ∀ σ, K σ = true → Sf τ m0 k σ) (σ : Sg) (h : a_div K σ = true) : Sf τ m0 (o_div k) σ := by
  intro ρ L st hp hS
  obtain ⟨G, F, La, sa, Ha⟩ := σ
  obtain ⟨hG, hF, h1, h2, h3⟩ := hS
  rcases sa with _ | ⟨y, _ | ⟨x, r⟩⟩
  · cases h
  · cases h
  · unfold a_div at h
    dsimp only at h
    split at h
    · rename_i a b c d e1 e2
      rw [Bool.and_eq_true] at h
      obtain ⟨v, st', rfl, hv, h2a⟩ := all2_cons h2
      obtain ⟨w, st'', rfl, hw, h2b⟩ := all2_cons h2a
      obtain ⟨v', rfl, hv'⟩ := iv_ok hG e2 hv
      obtain ⟨w', rfl, hw'⟩ := iv_ok hG e1 hw
      exact And.intro (nz_ok h.1 hv') (hk _ h.2 ρ L _ hp ⟨hG, hF, h1, ⟨divA_ok hw' hv', h2b⟩, h3⟩)
    · cases h
theorem s_rem (hk : ∀ σ, K σ = true → Sf τ m0 k σ) (σ : Sg) (h : a_rem K σ = true) : Sf τ m0 (o_rem k) σ := by
  intro ρ L st hp hS
  obtain ⟨G, F, La, sa, Ha⟩ := σ
  obtain ⟨hG, hF, h1, h2, h3⟩ := hS
  rcases sa with _ | ⟨y, _ | ⟨x, r⟩⟩
  · cases h
  · cases h
  · unfold a_rem at h
    dsimp only at h
    split at h
    · rename_i a b c d e1 e2
      rw [Bool.and_eq_true] at h
      obtain ⟨v, st', rfl, hv, h2a⟩ := all2_cons h2
      obtain ⟨w, st'', rfl, hw, h2b⟩ := all2_cons h2a
      obtain ⟨v', rfl, hv'⟩ := iv_ok hG e2 hv
      obtain ⟨w', rfl, hw'⟩ := iv_ok hG e1 hw
      exact And.intro (nz_ok h.1 hv') (hk _ h.2 ρ L _ hp ⟨hG, hF, h1, ⟨remA_ok hw' hv', h2b⟩, h3⟩)
    · cases h
theorem s_mmax (hk : ∀ σ, K σ = true → Sf τ m0 k σ) (σ : Sg) (h : a_mmax K σ = true) : Sf τ m0 (o_mmax k) σ := by
  intro ρ L st hp hS
  obtain ⟨G, F, La, sa, Ha⟩ := σ
  obtain ⟨hG, hF, h1, h2, h3⟩ := hS
  rcases sa with _ | ⟨y, _ | ⟨x, r⟩⟩
  · cases h
  · cases h
  · unfold a_mmax at h
    dsimp only at h
    split at h
    · rename_i a b c d e1 e2
      rw [Bool.and_eq_true] at h
      obtain ⟨v, st', rfl, hv, h2a⟩ := all2_cons h2
      obtain ⟨w, st'', rfl, hw, h2b⟩ := all2_cons h2a
      obtain ⟨v', rfl, hv'⟩ := iv_ok hG e2 hv
      obtain ⟨w', rfl, hw'⟩ := iv_ok hG e1 hw
      have m1 := maxI_l b d
      have m2 := maxI_r b d
      refine And.intro (by rw [all2_len h2b]; exact h.1) (hk _ h.2 ρ L _ hp ⟨hG, hF, h1, ⟨⟨_, rfl, ?_⟩, h2b⟩, h3⟩)
      unfold f_max
      split
      · rename_i q
        have q := Int32.lt_iff_toInt_lt.mp q
        exact ⟨by unfold maxI; split <;> omega, by omega⟩
      · rename_i q
        have q := Int32.le_iff_toInt_le.mp (Int32.not_lt.mp q)
        exact ⟨by unfold maxI; split <;> omega, by omega⟩
    · cases h
theorem s_mmin (hk : ∀ σ, K σ = true → Sf τ m0 k σ) (σ : Sg) (h : a_mmin K σ = true) : Sf τ m0 (o_mmin k) σ := by
  intro ρ L st hp hS
  obtain ⟨G, F, La, sa, Ha⟩ := σ
  obtain ⟨hG, hF, h1, h2, h3⟩ := hS
  rcases sa with _ | ⟨y, _ | ⟨x, r⟩⟩
  · cases h
  · cases h
  · unfold a_mmin at h
    dsimp only at h
    split at h
    · rename_i a b c d e1 e2
      rw [Bool.and_eq_true] at h
      obtain ⟨v, st', rfl, hv, h2a⟩ := all2_cons h2
      obtain ⟨w, st'', rfl, hw, h2b⟩ := all2_cons h2a
      obtain ⟨v', rfl, hv'⟩ := iv_ok hG e2 hv
      obtain ⟨w', rfl, hw'⟩ := iv_ok hG e1 hw
      have m1 := minI_l a c
      have m2 := minI_r a c
      refine And.intro (by rw [all2_len h2b]; exact h.1) (hk _ h.2 ρ L _ hp ⟨hG, hF, h1, ⟨⟨_, rfl, ?_⟩, h2b⟩, h3⟩)
      unfold f_min
      split
      · rename_i q
        have q := Int32.lt_iff_toInt_lt.mp q
        exact ⟨by omega, by unfold minI; split <;> omega⟩
      · rename_i q
        have q := Int32.le_iff_toInt_le.mp (Int32.not_lt.mp q)
        exact ⟨by omega, by unfold minI; split <;> omega⟩
    · cases h
theorem s_mabs (hk : ∀ σ, K σ = true → Sf τ m0 k σ) (σ : Sg) (h : a_mabs K σ = true) : Sf τ m0 (o_mabs k) σ := by
  intro ρ L st hp hS
  obtain ⟨G, F, La, sa, Ha⟩ := σ
  obtain ⟨hG, hF, h1, h2, h3⟩ := hS
  rcases sa with _ | ⟨x, r⟩
  · cases h
  · unfold a_mabs at h
    dsimp only at h
    split at h
    · rename_i a b e1
      rw [Bool.and_eq_true] at h
      obtain ⟨g1, h⟩ := h
      obtain ⟨w, st'', rfl, hw, h2b⟩ := all2_cons h2
      obtain ⟨v, rfl, hv⟩ := iv_ok hG e1 hw
      split at h
      rotate_left
      · exact And.intro (by rw [all2_len h2b]; exact g1) (hk _ h ρ L _ hp ⟨hG, hF, h1, ⟨topA_ok _, h2b⟩, h3⟩)
      rename_i g2
      have g2 := of_decide_eq_true g2
      have m1 := maxI_l b (-a)
      have m2 := maxI_r b (-a)
      refine And.intro (by rw [all2_len h2b]; exact g1) (hk _ h ρ L _ hp ⟨hG, hF, h1, ⟨⟨_, rfl, ?_⟩, h2b⟩, h3⟩)
      have e0 : (0 : Int32).toInt = 0 := rfl
      unfold f_abs
      split
      · rename_i q
        have q := Int32.le_iff_toInt_le.mp q
        exact ⟨by omega, by omega⟩
      · rename_i q
        have q := Int32.lt_iff_toInt_lt.mp (Int32.not_le.mp q)
        have e : (0 - v).toInt = 0 - v.toInt := by rw [Int32.toInt_sub, e0, bm (by omega) (by omega)]
        exact ⟨by omega, by omega⟩
    · cases h
end ABS6
