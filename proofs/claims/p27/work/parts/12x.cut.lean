/-! ===== abstract ends of blocks: returns, cuts, measures ===== -/
def leA (G : List (Int × Int)) (e a : AV) : Bool := match e with
  | .inl (lo, hi) => insA G lo hi a
  | .inr (.inl _) => false
  | .inr (.inr none) => match a with
    | .inr (.inr none) => true
    | _ => false
  | .inr (.inr (some (.inl i))) => match a with
    | .inr (.inr (some (.inl p))) => Nat.beq i p
    | _ => false
  | .inr (.inr (some (.inr t))) => match a with
    | .inr (.inr (some (.inr u))) => Nat.beq t u
    | _ => false
def leO (G : List (Int × Int)) (e a : Option AV) : Bool := match e, a with
  | none, _ => true
  | some e, some a => leA G e a
  | some _, none => false
def leC (G : List (Int × Int)) (e a : AC) : Bool := match e, a with
  | .inl (t, n, lo, hi), .inl (t', n', l, u) => ((Nat.beq t t' || (Nat.beq t 3 && (Nat.ble 600 t' && !Nat.ble 700 t'))) && Nat.beq n n') && ((ile lo l && ile u hi) && (!Nat.beq t 5 || (ieq lo l && ile 100 lo)))
  | .inr (ci, fs), .inr (cj, gs) => Nat.beq ci cj && all2b (leA G) fs gs
  | _, _ => false
abbrev Tg : Type := List (Option AV) × List AV × List AC
def gI (τ : Nat → List (Option Nat)) (T : Tg) (L : PL) (st : List PV) (h : PH) : Prop := all2 (gO ρ0 τ) T.1 L ∧ all2 (gV ρ0 τ) T.2.1 st ∧ all2 (gC ρ0 τ) T.2.2 h
theorem all2b_imp {α β γ : Type} {R : α → β → Bool} {S : β → γ → Prop} {T : α → γ → Prop} (hi : ∀ a b v, R a b = true → S b v → T a v) : ∀ {x : List α} {y : List β} {z : List γ}, all2b R x y = true → all2 S y z → all2 T x z
  | [], [], [], _, _ => trivial
  | [], [], _ :: _, _, h => h.elim
  | [], _ :: _, _, h, _ => by cases h
  | _ :: _, [], _, h, _ => by cases h
  | _ :: _, _ :: _, [], _, h => h.elim
  | a :: x, b :: y, c :: z, h, h2 => by
    have h : (R a b && all2b R x y) = true := h
    rw [Bool.and_eq_true] at h
    exact ⟨hi a b c h.1 h2.1, all2b_imp hi h.2 h2.2⟩
def slotA (σ : Sg) (a j : Nat) : Option AV := match a with
  | 0 => match nth σ.2.2.1 j with
    | some (some v) => some v
    | _ => none
  | a + 1 => match nth σ.2.2.2.2 a with
    | some (.inr (_, fs)) => nth fs j
    | _ => none
def intV (v : Option PV) : Int := match v with
  | some (.inl x) => x.toInt
  | _ => 0
def slotV (L : PL) (h : PH) (a j : Nat) : Int := match a with
  | 0 => match nth L j with
    | some v => intV v
    | _ => 0
  | a + 1 => match nth h a with
    | some (.inr (_, fs)) => intV (nth fs j)
    | _ => 0
def meV (L : PL) (h : PH) : List (Int × Nat × Nat) → Int
  | [] => 0
  | (w, a, j) :: r => w * slotV L h a j + meV L h r
def linA (σ : Sg) : List (Int × Nat × Nat) → Option (Int × List (Int × Nat))
  | [] => some (0, [])
  | (w, a, j) :: r => match slotA σ a j, linA σ r with
    | some (.inr (.inl (k, d))), some (c, l) => some (w * d + c, (w, k) :: l)
    | some (.inl (lo, hi)), some (c, l) => match ile 0 w with
      | true => some (w * hi + c, l)
      | false => some (w * lo + c, l)
    | _, _ => none
def linE (σ : Sg) : List (Int × Nat × Nat) → Option (Int × List (Int × Nat))
  | [] => some (0, [])
  | (w, a, j) :: r => match slotA σ a j, linE σ r with
    | some (.inr (.inl (k, d))), some (c, l) => some (w * d + c, (w, k) :: l)
    | _, _ => none
def addT (w : Int) (k : Nat) : List (Int × Nat) → List (Int × Nat)
  | [] => [(w, k)]
  | (w', k') :: r => match Nat.beq k k' with
    | true => (w + w', k) :: r
    | false => (w', k') :: addT w k r
def subF (l : List (Int × Nat)) : List (Int × Nat) → List (Int × Nat)
  | [] => l
  | (w, k) :: r => addT (-w) k (subF l r)
def ubF (G : List (Int × Int)) : List (Int × Nat) → Option Int
  | [] => some 0
  | (w, k) :: r => match nth G k, ubF G r with
    | some (lo, hi), some u => match ile 0 w with
      | true => some (w * hi + u)
      | false => some (w * lo + u)
    | _, _ => none
def a_cut (T : Tg) (M : Int × List (Int × Nat × Nat)) (ms : Bool) (σ : Sg) : Bool := (all2b (leO σ.1) T.1 σ.2.2.1 && (all2b (leA σ.1) T.2.1 σ.2.2.2.1 && all2b (leC σ.1) T.2.2 σ.2.2.2.2)) && (match ms with
  | false => true
  | true => match linA σ M.2 with
    | some (c, l) => match ubF σ.1 (subF l σ.2.1.2), ubF σ.1 (subF [] σ.2.1.2) with
      | some u, some u2 => ile (M.1 + c + u + 1) σ.2.1.1 && ile (u2 + 1) σ.2.1.1
      | _, _ => false
    | none => false)
def a_rv (σ : Sg) (q : Option (Int × Int) × List AC) : Bool := match q.1, σ.2.2.2.1 with
  | none, [] => all2b (leC σ.1) q.2 σ.2.2.2.2
  | _, _ => false
def a_ri (z : Bool) (σ : Sg) (q : Option (Int × Int) × List AC) : Bool := match q.1, σ.2.2.2.1 with
  | some (lo, hi), [a] => (insA σ.1 lo hi a && (!z || insA σ.1 0 1 a)) && all2b (leC σ.1) q.2 σ.2.2.2.2
  | _, _ => false
def anyR (f : Option (Int × Int) × List AC → Bool) : List (Option (Int × Int) × List AC) → Bool
  | [] => false
  | q :: l => f q || anyR f l
theorem anyR_ok {f : Option (Int × Int) × List AC → Bool} : ∀ {l : List (Option (Int × Int) × List AC)}, anyR f l = true → ∃ q, q ∈ l ∧ f q = true
  | [], h => by cases h
  | a :: l, h => by
    unfold anyR at h
    rw [Bool.or_eq_true] at h
    rcases h with h | h
    · exact ⟨a, List.mem_cons_self, h⟩
    · obtain ⟨q, h1, h2⟩ := anyR_ok h
      exact ⟨q, List.mem_cons_of_mem _ h1, h2⟩
section ABS5
variable {ρ : Nat → Int} {τ : Nat → List (Option Nat)} {m0 : Int} {K : Sg → Bool} {k : Blk} {G : List (Int × Int)}
theorem insA_ok {lo hi : Int} {a : AV} {v : PV} (hG : gG ρ G) (h : insA G lo hi a = true) (hv : gV ρ τ a v) : ∃ x : Int32, v = .inl x ∧ lo ≤ x.toInt ∧ x.toInt ≤ hi := by
  unfold insA at h
  split at h
  · rename_i l u e1
    rw [Bool.and_eq_true] at h
    have g1 := of_decide_eq_true h.1
    have g2 := of_decide_eq_true h.2
    obtain ⟨x, rfl, hx⟩ := iv_ok hG e1 hv
    exact ⟨x, rfl, by omega, by omega⟩
  · cases h
theorem leA_ok (hG : gG ρ G) (e a : AV) (v : PV) (h : leA G e a = true) (hv : gV ρ τ a v) : gV ρ0 τ e v := by
  rcases e with ⟨lo, hi⟩ | ⟨kk, d⟩ | _ | i | t
  · exact insA_ok hG h hv
  · cases h
  · rcases a with q | q | _ | p | u
    · cases h
    · cases h
    · exact hv
    · cases h
    · cases h
  · rcases a with q | q | _ | p | u
    · cases h
    · cases h
    · cases h
    · cases Nat.eq_of_beq_eq_true (h : Nat.beq i p = true)
      exact hv
    · cases h
  · rcases a with q | q | _ | p | u
    · cases h
    · cases h
    · cases h
    · cases h
    · cases Nat.eq_of_beq_eq_true (h : Nat.beq t u = true)
      exact hv
theorem leO_ok (hG : gG ρ G) (e a : Option AV) (v : Option PV) (h : leO G e a = true) (hv : gO ρ τ a v) : gO ρ0 τ e v := by
  cases e with
  | none => trivial
  | some e =>
    cases a with
    | none => cases h
    | some a =>
      cases v with
      | none => exact hv.elim
      | some v => exact leA_ok hG e a v h hv
theorem leC_ok (hG : gG ρ G) (e a : AC) (v : PE) (h : leC G e a = true) (hv : gC ρ τ a v) : gC ρ0 τ e v := by
  rcases e with ⟨t, n, lo, hi⟩ | ⟨ci, fs⟩ <;> rcases a with ⟨t', n', l, u⟩ | ⟨cj, gs⟩ <;> rcases v with ⟨t2, n2, f⟩ | ⟨ck, hs⟩
  · unfold leC at h
    dsimp only at h
    simp only [Bool.and_eq_true, Bool.or_eq_true, Bool.not_eq_true'] at h
    obtain ⟨⟨g1, g2⟩, ⟨g3, g4⟩, g5⟩ := h
    have g3 := of_decide_eq_true g3
    have g4 := of_decide_eq_true g4
    cases Nat.eq_of_beq_eq_true g2
    rcases g1 with g1 | ⟨g1, h6, h7⟩
    rotate_left
    · cases Nat.eq_of_beq_eq_true g1
      exact ⟨hv.1.trans (kk_6 h6 h7), hv.2.1, fun i hi => ⟨fun hs => by
        have := (hv.2.2 i hi).1 (by rw [sel_6 h6 h7]; exact hs)
        exact ⟨by omega, by omega⟩, fun e5 => (by cases e5), fun e9 => (by cases e9)⟩⟩
    cases Nat.eq_of_beq_eq_true g1
    refine ⟨hv.1, hv.2.1, fun i hi => ⟨fun hs => by have := (hv.2.2 i hi).1 hs; exact ⟨by omega, by omega⟩, fun e5 => ?_, (hv.2.2 i hi).2.2⟩⟩
    subst e5
    rcases g5 with g5 | ⟨g5, g6⟩
    · cases g5
    · have g5 := of_decide_eq_true g5
      have g6 := of_decide_eq_true g6
      have := (hv.2.2 i hi).2.1 rfl
      rw [← g5] at this
      exact this
  · exact hv.elim
  · cases h
  · cases h
  · cases h
  · cases h
  · exact hv.elim
  · unfold leC at h
    dsimp only at h
    rw [Bool.and_eq_true] at h
    cases Nat.eq_of_beq_eq_true h.1
    exact ⟨hv.1, all2b_imp (leA_ok hG) h.2 hv.2⟩
theorem slot_ok {σ : Sg} {L : PL} {st : List PV} {h : PH} {a j : Nat} {av : AV} (hS : gS ρ τ m0 σ L st h) (e : slotA σ a j = some av) : ∃ v, gV ρ τ av v ∧ slotV L h a j = intV (some v) := by
  obtain ⟨hG, hF, h1, h2, h3⟩ := hS
  cases a with
  | zero =>
    unfold slotA at e
    dsimp only at e
    split at e
    · rename_i v hv
      cases e
      obtain ⟨w, hw, hgw⟩ := all2_nth h1 hv
      cases w with
      | none => exact hgw.elim
      | some w => exact ⟨w, hgw, by unfold slotV; dsimp only; rw [hw]⟩
    · cases e
  | succ a =>
    unfold slotA at e
    dsimp only at e
    split at e
    · rename_i ci fs hc
      obtain ⟨w, hw, hgw⟩ := all2_nth h3 hc
      rcases w with ⟨t', n', f⟩ | ⟨ci', fs'⟩
      · exact hgw.elim
      · obtain ⟨x, hx, hgx⟩ := all2_nth hgw.2 e
        exact ⟨x, hgx, by unfold slotV; dsimp only; rw [hw]; dsimp only; rw [hx]⟩
    · cases e
theorem linA_ok {σ : Sg} {L : PL} {st : List PV} {h : PH} (hS : gS ρ τ m0 σ L st h) : ∀ (l : List (Int × Nat × Nat)) (c : Int) (r : List (Int × Nat)), linA σ l = some (c, r) → meV L h l ≤ c + evF ρ r
  | [], c, r, e => by cases e; exact Int.le_refl _
  | (w, a, j) :: l, c, r, e => by
    unfold linA at e
    split at e
    · rename_i k d c' l' e1 e2
      cases e
      obtain ⟨v, hv, hs⟩ := slot_ok hS e1
      obtain ⟨x, rfl, hx⟩ := hv
      have ih := linA_ok hS l c' l' e2
      show w * slotV L h a j + meV L h l ≤ w * d + c' + (w * ρ k + evF ρ l')
      have hs : slotV L h a j = x.toInt := hs
      rw [hs, hx, Int.mul_add]
      omega
    · rename_i lo hi c' l' e1 e2
      obtain ⟨v, hv, hs⟩ := slot_ok hS e1
      obtain ⟨x, rfl, hx⟩ := hv
      have ih := linA_ok hS l c' l' e2
      have hs : slotV L h a j = x.toInt := hs
      split at e
      · rename_i hw
        cases e
        have hw := of_decide_eq_true hw
        have := Int.mul_le_mul_of_nonneg_left hx.2 hw
        show w * slotV L h a j + meV L h l ≤ w * hi + c' + evF ρ r
        rw [hs]
        omega
      · rename_i hw
        cases e
        have hw := of_decide_eq_false hw
        have := Int.mul_le_mul_of_nonpos_left (a := w) (by omega) hx.1
        show w * slotV L h a j + meV L h l ≤ w * lo + c' + evF ρ r
        rw [hs]
        omega
    · cases e
theorem linE_ok {σ : Sg} {L : PL} {st : List PV} {h : PH} (hS : gS ρ τ m0 σ L st h) : ∀ (l : List (Int × Nat × Nat)) (c : Int) (r : List (Int × Nat)), linE σ l = some (c, r) → meV L h l = c + evF ρ r
  | [], c, r, e => by cases e; rfl
  | (w, a, j) :: l, c, r, e => by
    unfold linE at e
    split at e
    · rename_i k d c' l' e1 e2
      cases e
      obtain ⟨v, hv, hs⟩ := slot_ok hS e1
      obtain ⟨x, rfl, hx⟩ := hv
      have ih := linE_ok hS l c' l' e2
      show w * slotV L h a j + meV L h l = w * d + c' + (w * ρ k + evF ρ l')
      have hs : slotV L h a j = x.toInt := hs
      rw [hs, hx, Int.mul_add]
      omega
    · cases e
theorem evF_addT (w : Int) (k : Nat) : ∀ (l : List (Int × Nat)), evF ρ (addT w k l) = w * ρ k + evF ρ l
  | [] => rfl
  | (w', k') :: r => by
    unfold addT
    split
    · rename_i hk
      cases Nat.eq_of_beq_eq_true hk
      show (w + w') * ρ k + evF ρ r = w * ρ k + (w' * ρ k + evF ρ r)
      rw [Int.add_mul]
      omega
    · show w' * ρ k' + evF ρ (addT w k r) = w * ρ k + (w' * ρ k' + evF ρ r)
      rw [evF_addT w k r]
      omega
theorem evF_sub (l : List (Int × Nat)) : ∀ (r : List (Int × Nat)), evF ρ (subF l r) = evF ρ l - evF ρ r
  | [] => by show evF ρ l = evF ρ l - 0; omega
  | (w, k) :: r => by
    show evF ρ (addT (-w) k (subF l r)) = evF ρ l - (w * ρ k + evF ρ r)
    rw [evF_addT, evF_sub l r, Int.neg_mul]
    omega
theorem ubF_ok (hG : gG ρ G) : ∀ (l : List (Int × Nat)) (u : Int), ubF G l = some u → evF ρ l ≤ u
  | [], u, e => by cases e; exact Int.le_refl _
  | (w, k) :: r, u, e => by
    unfold ubF at e
    split at e
    · rename_i lo hi u' e1 e2
      have ih := ubF_ok hG r u' e2
      have hk := hG _ _ _ e1
      split at e
      · rename_i hw
        cases e
        have := Int.mul_le_mul_of_nonneg_left hk.2 (of_decide_eq_true hw)
        show w * ρ k + evF ρ r ≤ w * hi + u'
        omega
      · rename_i hw
        cases e
        have hw := of_decide_eq_false hw
        have := Int.mul_le_mul_of_nonpos_left (a := w) (by omega) hk.1
        show w * ρ k + evF ρ r ≤ w * lo + u'
        omega
    · cases e
theorem s_cut {T : Tg} {M : Int × List (Int × Nat × Nat)} {ms : Bool} (hk : ∀ L st h, gI τ T L st h → (ms = true → M.1 + meV L h M.2 < m0 ∧ 1 ≤ m0) → k L st h) (σ : Sg) (h : a_cut T M ms σ = true) : Sf τ m0 k σ := by
  intro ρ L st hp hS
  have hS' := hS
  obtain ⟨hG, hF, h1, h2, h3⟩ := hS
  unfold a_cut at h
  rw [Bool.and_eq_true, Bool.and_eq_true, Bool.and_eq_true] at h
  obtain ⟨⟨g1, g2, g3⟩, g4⟩ := h
  refine hk L st hp ⟨all2b_imp (leO_ok hG) g1 h1, all2b_imp (leA_ok hG) g2 h2, all2b_imp (leC_ok hG) g3 h3⟩ (fun hms => ?_)
  subst hms
  dsimp only at g4
  split at g4
  · rename_i c l e1
    split at g4
    · rename_i u u2 e2 e3
      rw [Bool.and_eq_true] at g4
      have g5 := of_decide_eq_true g4.1
      have g6 := of_decide_eq_true g4.2
      have a1 := linA_ok hS' _ _ _ e1
      have a2 := ubF_ok hG _ _ e2
      have a3 := ubF_ok hG _ _ e3
      rw [evF_sub] at a2 a3
      have a4 : evF ρ [] = 0 := rfl
      exact ⟨by omega, by omega⟩
    · cases g4
  · cases g4
theorem s_vret {Rv : Option PV → PH → Prop} {RS : List (Option (Int × Int) × List AC)} (hR : ∀ r h' q, q ∈ RS → gR q.1 r → all2 (gC ρ0 τ) q.2 h' → Rv r h') (σ : Sg) (h : anyR (a_rv σ) RS = true) : Sf τ m0 (o_vret Rv) σ := by
  intro ρ L st hp hS
  obtain ⟨G, F, La, sa, Ha⟩ := σ
  obtain ⟨hG, hF, h1, h2, h3⟩ := hS
  obtain ⟨⟨q1, q2⟩, hq, h⟩ := anyR_ok h
  unfold a_rv at h
  dsimp only at h
  split at h
  · cases st with
    | nil => exact hR none hp _ hq rfl (all2b_imp (leC_ok hG) h h3)
    | cons _ _ => exact h2.elim
  · cases h
theorem s_ri {RS : List (Option (Int × Int) × List AC)} {z : Bool} {σ : Sg} {L : PL} {st : List PV} {hp : PH} (hS : gS ρ τ m0 σ L st hp) (h : anyR (a_ri z σ) RS = true) : ∃ (x : Int32) (q : Option (Int × Int) × List AC), st = [.inl x] ∧ q ∈ RS ∧ gR q.1 (some (.inl x)) ∧ all2 (gC ρ0 τ) q.2 hp ∧ (z = true → x = 0 ∨ x = 1) := by
  obtain ⟨G, F, La, sa, Ha⟩ := σ
  obtain ⟨hG, hF, h1, h2, h3⟩ := hS
  obtain ⟨⟨q1, q2⟩, hq, h⟩ := anyR_ok h
  unfold a_ri at h
  dsimp only at h
  split at h
  · rw [Bool.and_eq_true, Bool.and_eq_true] at h
    obtain ⟨v, st', rfl, hv, h2a⟩ := all2_cons h2
    cases st' with
    | nil =>
      obtain ⟨x, rfl, hx⟩ := insA_ok hG h.1.1 hv
      refine ⟨x, _, rfl, hq, ⟨x, rfl, hx⟩, all2b_imp (leC_ok hG) h.2 h3, fun hz => ?_⟩
      subst hz
      have h12 := h.1.2
      rw [Bool.not_true, Bool.false_or] at h12
      obtain ⟨x', e', hx'⟩ := insA_ok hG h12 hv
      cases e'
      rcases (by omega : x.toInt = 0 ∨ x.toInt = 1) with h | h
      · exact Or.inl (i32eq.mpr h)
      · exact Or.inr (i32eq.mpr h)
    | cons _ _ => exact h2a.elim
  · cases h
theorem s_iret {Rv : Option PV → PH → Prop} {RS : List (Option (Int × Int) × List AC)} (hR : ∀ r h' q, q ∈ RS → gR q.1 r → all2 (gC ρ0 τ) q.2 h' → Rv r h') (σ : Sg) (h : anyR (a_ri false σ) RS = true) : Sf τ m0 (o_iret Rv) σ := by
  intro ρ L st hp hS
  obtain ⟨x, q, rfl, g1, g2, g3, _⟩ := s_ri hS h
  exact hR _ hp q g1 g2 g3
theorem s_zret {Rv : Option PV → PH → Prop} {RS : List (Option (Int × Int) × List AC)} (hR : ∀ r h' q, q ∈ RS → gR q.1 r → all2 (gC ρ0 τ) q.2 h' → Rv r h') (σ : Sg) (h : anyR (a_ri true σ) RS = true) : Sf τ m0 (o_zret Rv) σ := by
  intro ρ L st hp hS
  obtain ⟨x, q, rfl, g1, g2, g3, g4⟩ := s_ri hS h
  exact And.intro (g4 rfl) (hR _ hp q g1 g2 g3)
end ABS5
