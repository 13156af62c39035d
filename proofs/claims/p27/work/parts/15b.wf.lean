/-! ===== codes that are well made, while they are being written ===== -/
def wd (k v : Nat) : Int32 := nI (1048576 * k + v)
def updN (f : Nat → Nat) (i v : Nat) : Nat → Nat := fun j => if j = i then v else f j
theorem updN_s {f : Nat → Nat} {i v : Nat} : updN f i v i = v := if_pos rfl
theorem updN_n {f : Nat → Nat} {i v j : Nat} (h : ¬ j = i) : updN f i v j = f j := if_neg h
theorem upd_sI {f : Nat → Int32} {i : Nat} {v : Int32} : upd f i v i = v := if_pos rfl
theorem upd_nI {f : Nat → Int32} {i j : Nat} {v : Int32} (h : ¬ j = i) : upd f i v j = f j := if_neg h
def codeN (K V D : Nat → Nat) (W : Nat → Prop) (b k : Nat) : Prop :=
  (K k = 0 ∧ D (k + 1) = D k + 1) ∨ (K k = 1 ∧ V k ≤ 8 ∧ D (k + 1) = D k + 1) ∨ (K k = 10 ∧ 1 ≤ D k ∧ D (k + 1) = D k)
  ∨ ((K k = 11 ∨ K k = 12) ∧ 1 ≤ D k ∧ D (k + 1) + 1 = D k ∧ (W k ∨ (k < V k ∧ V k ≤ b ∧ D (V k) = D k)))
  ∨ (2 ≤ K k ∧ K k ≤ 9 ∧ 2 ≤ D k ∧ D (k + 1) + 1 = D k)
theorem codeN_ext {K V D K' V' D' : Nat → Nat} {W W' : Nat → Prop} {b b' k : Nat} (hk : k < b) (hK : K' k = K k) (hV : V' k = V k) (hD : ∀ j, j ≤ b → D' j = D j) (hW : W k → W' k) (hb : b ≤ b') (h : codeN K V D W b k) : codeN K' V' D' W' b' k := by
  unfold codeN
  rw [hK, hV, hD k (by omega), hD (k + 1) (by omega)]
  rcases h with h | h | h | ⟨h1, h2, h3, h4⟩ | h
  · exact Or.inl h
  · exact Or.inr (Or.inl h)
  · exact Or.inr (Or.inr (Or.inl h))
  · refine Or.inr (Or.inr (Or.inr (Or.inl ⟨h1, h2, h3, ?_⟩)))
    rcases h4 with h4 | ⟨h4, h5, h6⟩
    · exact Or.inl (hW h4)
    · exact Or.inr ⟨h4, by omega, by rw [hD _ h5]; exact h6⟩
  · exact Or.inr (Or.inr (Or.inr (Or.inr h)))
def pendN (A P : Nat → Nat) (t k : Nat) : Prop := ∃ i, i < t ∧ (A i = 11 ∨ A i = 12) ∧ P i = k
/-- codes a to c, with t that wait (kinds A), d deep at the end -/
def PS (sd wt : Nat → Int32) (a c t d : Nat) (A : Nat → Nat) : Prop := a ≤ c ∧ ∃ K V D P : Nat → Nat, D a = 0 ∧ D c = d ∧ (∀ k, a ≤ k → k < c → sd k = wd (K k) (V k) ∧ K k ≤ 12 ∧ V k < 1048576) ∧ (∀ k, a ≤ k → k < c → codeN K V D (pendN A P t) c k) ∧ (∀ i, i < t → wt i = wd (A i) (P i) ∧ P i < 1048576 ∧ A i ≤ 14 ∧ (A i = 11 ∨ A i = 12 → a ≤ P i ∧ P i < c ∧ D (P i) = 1 ∧ (K (P i) = 11 ∨ K (P i) = 12)))
section PSS
variable {sd wt : Nat → Int32} {a c t d : Nat} {A : Nat → Nat}
/-- one code more, none that waits -/
theorem PS_add {k v d' : Nat} (hk : k ≤ 12) (hv : v < 1048576) (hc : ∀ K V D : Nat → Nat, ∀ W : Nat → Prop, K c = k → V c = v → D c = d → D (c + 1) = d' → codeN K V D W (c + 1) c) (h : PS sd wt a c t d A) : PS (upd sd c (wd k v)) wt a (c + 1) t d' A := by
  obtain ⟨hac, K, V, D, P, h1, h2, h3, h4, h5⟩ := h
  refine ⟨by omega, updN K c k, updN V c v, updN D (c + 1) d', P, ?_, updN_s, ?_, ?_, ?_⟩
  · rw [updN_n (by omega)]; exact h1
  · intro j hj1 hj2
    by_cases e : j = c
    · subst e
      rw [upd_sI, updN_s, updN_s]
      exact ⟨rfl, hk, hv⟩
    · rw [upd_nI e, updN_n e, updN_n e]
      exact h3 j hj1 (by omega)
  · intro j hj1 hj2
    by_cases e : j = c
    · subst e
      exact hc _ _ _ _ updN_s updN_s (by rw [updN_n (by omega)]; exact h2) updN_s
    · exact codeN_ext (b := c) (by omega) (updN_n e) (updN_n e) (fun i hi => updN_n (by omega)) (fun w => w) (by omega) (h4 j hj1 (by omega))
  · intro i hi
    obtain ⟨q1, q2, q3, q4⟩ := h5 i hi
    refine ⟨q1, q2, q3, fun e => ?_⟩
    obtain ⟨r1, r2, r3, r4⟩ := q4 e
    refine ⟨r1, by omega, ?_, ?_⟩
    · rw [updN_n (by omega)]; exact r3
    · rw [updN_n (by omega)]; exact r4
theorem PS_num {v : Nat} (hv : v < 1048576) (h : PS sd wt a c t d A) : PS (upd sd c (wd 0 v)) wt a (c + 1) t (d + 1) A := PS_add (by omega) hv (fun K V D W e1 e2 e3 e4 => Or.inl ⟨e1, by omega⟩) h
theorem PS_let {v : Nat} (hv : v ≤ 8) (h : PS sd wt a c t d A) : PS (upd sd c (wd 1 v)) wt a (c + 1) t (d + 1) A := PS_add (by omega) (by omega) (fun K V D W e1 e2 e3 e4 => Or.inr (Or.inl ⟨e1, by omega, by omega⟩)) h
theorem PS_not (h : PS sd wt a c t (d + 1) A) : PS (upd sd c (wd 10 0)) wt a (c + 1) t (d + 1) A := PS_add (by omega) (by omega) (fun K V D W e1 e2 e3 e4 => Or.inr (Or.inr (Or.inl ⟨e1, by omega, by omega⟩))) h
theorem PS_bin {k : Nat} (h2 : 2 ≤ k) (h9 : k ≤ 9) (h : PS sd wt a c t (d + 2) A) : PS (upd sd c (wd k 0)) wt a (c + 1) t (d + 1) A := PS_add (by omega) (by omega) (fun K V D W e1 e2 e3 e4 => Or.inr (Or.inr (Or.inr (Or.inr ⟨by omega, by omega, by omega, by omega⟩)))) h
/-- the top is taken off that is no jump -/
theorem PS_pop (hA : ¬ (A t = 11 ∨ A t = 12)) (h : PS sd wt a c (t + 1) d A) : PS sd wt a c t d A := by
  obtain ⟨hac, K, V, D, P, h1, h2, h3, h4, h5⟩ := h
  refine ⟨hac, K, V, D, P, h1, h2, h3, ?_, fun i hi => h5 i (by omega)⟩
  intro j hj1 hj2
  refine codeN_ext hj2 rfl rfl (fun _ _ => rfl) ?_ (Nat.le_refl _) (h4 j hj1 hj2)
  rintro ⟨i, hi, hi2, hi3⟩
  refine ⟨i, ?_, hi2, hi3⟩
  rcases (by omega : i < t ∨ i = t) with h | rfl
  · exact h
  · exact absurd hi2 hA
/-- something that is no jump waits -/
theorem PS_push {k : Nat} (hk : k ≤ 14) (hn : ¬ (k = 11 ∨ k = 12)) (h : PS sd wt a c t d A) : PS sd (upd wt t (wd k 0)) a c (t + 1) d (updN A t k) := by
  obtain ⟨hac, K, V, D, P, h1, h2, h3, h4, h5⟩ := h
  refine ⟨hac, K, V, D, updN P t 0, h1, h2, h3, ?_, ?_⟩
  · intro j hj1 hj2
    refine codeN_ext hj2 rfl rfl (fun _ _ => rfl) ?_ (Nat.le_refl _) (h4 j hj1 hj2)
    rintro ⟨i, hi, hi2, hi3⟩
    exact ⟨i, by omega, by rw [updN_n (by omega)]; exact hi2, by rw [updN_n (by omega)]; exact hi3⟩
  · intro i hi
    by_cases e : i = t
    · subst e
      rw [upd_sI, updN_s, updN_s]
      exact ⟨rfl, by omega, hk, fun z => absurd z hn⟩
    · rw [upd_nI e, updN_n e, updN_n e]
      exact h5 i (by omega)
/-- a jump is written and waits -/
theorem PS_jump {k : Nat} (hk : k = 11 ∨ k = 12) (hc : c < 1048576) (h : PS sd wt a c t 1 A) : PS (upd sd c (wd k 0)) (upd wt t (wd k c)) a (c + 1) (t + 1) 0 (updN A t k) := by
  obtain ⟨hac, K, V, D, P, h1, h2, h3, h4, h5⟩ := h
  refine ⟨by omega, updN K c k, updN V c 0, updN D (c + 1) 0, updN P t c, ?_, updN_s, ?_, ?_, ?_⟩
  · rw [updN_n (by omega)]; exact h1
  · intro j hj1 hj2
    by_cases e : j = c
    · subst e
      rw [upd_sI, updN_s, updN_s]
      exact ⟨rfl, by omega, by omega⟩
    · rw [upd_nI e, updN_n e, updN_n e]
      exact h3 j hj1 (by omega)
  · intro j hj1 hj2
    by_cases e : j = c
    · subst e
      unfold codeN
      rw [updN_s, updN_s, updN_n (by omega : ¬ j = j + 1), h2]
      exact Or.inr (Or.inr (Or.inr (Or.inl ⟨hk, by omega, by omega, Or.inl ⟨t, by omega, by rw [updN_s]; exact hk, updN_s⟩⟩)))
    · refine codeN_ext (b := c) (by omega) (updN_n e) (updN_n e) (fun i hi => updN_n (by omega)) ?_ (by omega) (h4 j hj1 (by omega))
      rintro ⟨i, hi, hi2, hi3⟩
      exact ⟨i, by omega, by rw [updN_n (by omega)]; exact hi2, by rw [updN_n (by omega)]; exact hi3⟩
  · intro i hi
    by_cases e : i = t
    · subst e
      rw [upd_sI, updN_s, updN_s]
      refine ⟨rfl, hc, by omega, fun _ => ⟨hac, by omega, ?_, by rw [updN_s]; exact hk⟩⟩
      rw [updN_n (by omega)]; exact h2
    · rw [upd_nI e, updN_n e, updN_n e]
      obtain ⟨q1, q2, q3, q4⟩ := h5 i (by omega)
      refine ⟨q1, q2, q3, fun z => ?_⟩
      obtain ⟨r1, r2, r3, r4⟩ := q4 z
      refine ⟨r1, by omega, ?_, ?_⟩
      · rw [updN_n (by omega)]; exact r3
      · rw [updN_n (by omega)]; exact r4
/-- the top, a jump, lands here -/
theorem PS_land (hA : A t = 11 ∨ A t = 12) (hc : c < 1048576) (h : PS sd wt a c (t + 1) 1 A) : ∃ p k : Nat, a ≤ p ∧ p < c ∧ (k = 11 ∨ k = 12) ∧ (∃ v, v < 1048576 ∧ sd p = wd k v) ∧ wt t = wd (A t) p ∧ PS (upd sd p (wd k c)) wt a c t 1 A := by
  obtain ⟨hac, K, V, D, P, h1, h2, h3, h4, h5⟩ := h
  obtain ⟨q1, q2, q3, q4⟩ := h5 t (by omega)
  obtain ⟨r1, r2, r3, r4⟩ := q4 hA
  have q := h3 (P t) r1 r2
  refine ⟨P t, K (P t), r1, r2, r4, ⟨V (P t), q.2.2, q.1⟩, q1, hac, K, updN V (P t) c, D, P, h1, h2, ?_, ?_, fun i hi => h5 i (by omega)⟩
  · intro j hj1 hj2
    by_cases e : j = P t
    · subst e
      rw [upd_sI, updN_s]
      exact ⟨rfl, by omega, hc⟩
    · rw [upd_nI e, updN_n e]
      exact h3 j hj1 hj2
  · intro j hj1 hj2
    by_cases e : j = P t
    · have w := h4 j hj1 hj2
      subst e
      unfold codeN
      rw [updN_s]
      have w3 : D (P t + 1) + 1 = D (P t) := by
        rcases w with w | w | w | w | w
        · omega
        · omega
        · omega
        · exact w.2.2.1
        · omega
      exact Or.inr (Or.inr (Or.inr (Or.inl ⟨r4, by omega, w3, Or.inr ⟨r2, Nat.le_refl _, by omega⟩⟩)))
    · refine codeN_ext hj2 rfl (updN_n e) (fun _ _ => rfl) ?_ (Nat.le_refl _) (h4 j hj1 hj2)
      rintro ⟨i, hi, hi2, hi3⟩
      refine ⟨i, ?_, hi2, hi3⟩
      rcases (by omega : i < t ∨ i = t) with h | rfl
      · exact h
      · exact absurd hi3.symm e
theorem PS_top (h : PS sd wt a c (t + 1) d A) : ∃ p, p < 1048576 ∧ wt t = wd (A t) p ∧ A t ≤ 14 := by
  obtain ⟨hac, K, V, D, P, h1, h2, h3, h4, h5⟩ := h
  obtain ⟨q1, q2, q3, q4⟩ := h5 t (by omega)
  exact ⟨P t, q2, q1, q3⟩
theorem PS_new : PS sd wt c c 0 0 A := ⟨Nat.le_refl _, fun _ => 0, fun _ => 0, fun _ => 0, fun _ => 0, rfl, rfl, fun _ _ _ => by omega, fun _ _ _ => by omega, fun _ h => absurd h (Nat.not_lt_zero _)⟩
theorem wd_toInt {k v : Nat} (hk : k ≤ 14) (hv : v < 1048576) : (wd k v).toInt = ((1048576 * k + v : Nat) : Int) := nI_toInt (by omega)
theorem wd_div {k v : Nat} (hk : k ≤ 14) (hv : v < 1048576) : wd k v / 1048576 = nI k := by
  apply Int32.toInt_inj.mp
  have e2 : (1048576 : Int32).toInt = 1048576 := by decide
  rw [Int32.toInt_div, wd_toInt hk hv, e2, nI_toInt (by omega), Int.tdiv_eq_ediv_of_nonneg (by omega)]
  have e : ((1048576 * k + v : Nat) : Int) / 1048576 = (k : Int) := by omega
  rw [e, bm (by omega) (by omega)]
theorem wd_rem {k v : Nat} (hk : k ≤ 14) (hv : v < 1048576) : wd k v - wd k v / 1048576 * 1048576 = nI v := by
  rw [wd_div hk hv]
  have e1 : nI k * 1048576 = nI (k * 1048576) := (Int32.ofNat_mul k 1048576).symm
  rw [e1]
  have e2 : wd k v = nI (k * 1048576 + v) := by unfold wd; rw [Nat.mul_comm]
  rw [e2, ← nI_add, Int32.add_comm, Int32.add_sub_cancel]
theorem wd_mk {k v : Nat} : f_add (f_mul 1048576 (nI k)) (nI v) = wd k v := by
  show 1048576 * nI k + nI v = nI (1048576 * k + v)
  rw [← nI_add]
  exact congrArg (· + nI v) (Int32.ofNat_mul 1048576 k).symm
theorem wd_mk0 {k : Nat} : f_mul 1048576 (nI k) = wd k 0 := by
  have := wd_mk (k := k) (v := 0)
  rw [nI_0] at this
  rw [← this]
  exact (Int32.add_zero _).symm
/-- written to the end: a part that runs -/
theorem PS_end (h : PS sd wt a c 0 d A) (hc : c ≤ 260) : partC sd a c := by
  obtain ⟨hac, K, V, D, P, h1, h2, h3, h4, h5⟩ := h
  refine ⟨by omega, by omega, by omega, D, ?_, ?_⟩
  · rw [Int.toNat_natCast]; exact h1
  · intro k hk1 hk2
    rw [Int.toNat_natCast] at hk1 hk2 ⊢
    obtain ⟨q1, q2, q3⟩ := h3 k hk1 hk2
    have w := h4 k hk1 hk2
    unfold codeC
    rw [q1, wd_toInt (by omega) q3]
    have e1 : ((1048576 * K k + V k : Nat) : Int) / 1048576 = (K k : Int) := by omega
    have e2 : ((1048576 * K k + V k : Nat) : Int) % 1048576 = (V k : Int) := by omega
    rw [e1, e2]
    refine ⟨by omega, ?_⟩
    rcases w with w | w | w | ⟨w1, w2, w3, w4⟩ | w
    · exact Or.inl ⟨by omega, w.2⟩
    · exact Or.inr (Or.inl ⟨by omega, by omega, w.2.2⟩)
    · exact Or.inr (Or.inr (Or.inl ⟨by omega, w.2⟩))
    · refine Or.inr (Or.inr (Or.inr (Or.inl ⟨by omega, w2, w3, ?_⟩)))
      rcases w4 with ⟨i, hi, _⟩ | ⟨w5, w6, w7⟩
      · exact absurd hi (Nat.not_lt_zero _)
      · exact ⟨by omega, by omega, by rw [Int.toNat_natCast]; exact w7⟩
    · exact Or.inr (Or.inr (Or.inr (Or.inr ⟨by omega, by omega, w.2.2⟩)))
end PSS

