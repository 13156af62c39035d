/-! ===== rows for the pure proofs ===== -/
def bI (p : Prop) [Decidable p] : Int32 := if p then 1 else 0
theorem bI_t {p : Prop} [Decidable p] (h : p) : bI p = 1 := if_pos h
theorem bI_f {p : Prop} [Decidable p] (h : ¬ p) : bI p = 0 := if_neg h
theorem bI_01 {p : Prop} [Decidable p] : bI p = 0 ∨ bI p = 1 := by
  by_cases h : p
  · exact Or.inr (bI_t h)
  · exact Or.inl (bI_f h)
theorem bI_eq0 {p : Prop} [Decidable p] : bI p = 0 ↔ ¬ p := by
  by_cases h : p
  · rw [bI_t h]; exact ⟨fun z => absurd z (by decide), fun z => absurd h z⟩
  · rw [bI_f h]; exact ⟨fun _ => h, fun _ => rfl⟩
theorem bI_eq1 {p : Prop} [Decidable p] : bI p = 1 ↔ p := by
  by_cases h : p
  · rw [bI_t h]; exact ⟨fun _ => h, fun _ => rfl⟩
  · rw [bI_f h]; exact ⟨fun z => absurd z (by decide), fun z => absurd z h⟩
theorem bI_congr {p q : Prop} [Decidable p] [Decidable q] (h : p ↔ q) : bI p = bI q := by
  by_cases hp : p
  · rw [bI_t hp, bI_t (h.mp hp)]
  · rw [bI_f hp, bI_f (fun z => hp (h.mpr z))]
/-- a branch on an answer that is a truth -/
theorem br_b {p : Prop} [Decidable p] {A B : Prop} (hn : ¬ p → A) (hp : p → B) : (c_eq (bI p) 0 → A) ∧ (¬ c_eq (bI p) 0 → B) := ⟨fun h => hn (bI_eq0.mp h), fun h => hp (Classical.byContradiction fun z => h (bI_eq0.mpr z))⟩
theorem call0 {l : Launch} {d : Nat} {y : MethodName} {cc : ByteArray} {maxL : Nat} {rt : Option FieldType} {mc ms : Nat} {as : List PV} {h : PH} {post : Option PV → PH → Prop} {K : Option PV → PH → Prop} {a b : Bool} (hM : MetP l d y cc maxL rt mc ms as h post) (ha : a = true) (hb : b = true) (hk : ∀ (r : Option PV) (h' : PH), post r h' → K r h') : a = true ∧ b = true ∧ ∃ post : Option PV → PH → Prop, MetP l d y cc maxL rt mc ms as h post ∧ ∀ (r : Option PV) (h' : PH), post r h' → K r h' := ⟨ha, hb, post, hM, hk⟩
theorem callA {l : Launch} {d : Nat} {y : MethodName} {cc : ByteArray} {maxL : Nat} {rt : Option FieldType} {mc ms : Nat} {as0 as1 as : List PV} {x : Nat} {h : PH} {post : Option PV → PH → Prop} {K : Option PV → PH → Prop} {a b c : Bool} (hM : MetP l d y cc maxL rt mc ms as h post) (h0 : as0 = .inr (some (.inl x)) :: as1) (ha : a = true) (hb : b = true) (hc : c = true) (hk : ∀ (r : Option PV) (h' : PH), post r h' → K r h') : ∃ (x : Nat) (as1 : List PV), as0 = .inr (some (.inl x)) :: as1 ∧ a = true ∧ b = true ∧ c = true ∧ ∃ post : Option PV → PH → Prop, MetP l d y cc maxL rt mc ms as h post ∧ ∀ (r : Option PV) (h' : PH), post r h' → K r h' := ⟨x, as1, h0, ha, hb, hc, post, hM, hk⟩
def fillK (f : Nat → Int32) (v : Int32) (i : Nat) : Nat → Int32 := fun j => if j < i then v else f j
theorem fillK_0 (f : Nat → Int32) (v : Int32) : fillK f v 0 = f := funext fun j => if_neg (Nat.not_lt_zero j)
theorem fillK_s (f : Nat → Int32) (v : Int32) (i : Nat) : upd (fillK f v i) i v = fillK f v (i + 1) := by
  funext j
  unfold upd fillK
  by_cases h : j = i
  · rw [if_pos h, if_pos (by omega)]
  · rw [if_neg h]
    by_cases h2 : j < i
    · rw [if_pos h2, if_pos (by omega)]
    · rw [if_neg h2, if_neg (by omega)]
