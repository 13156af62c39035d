/-! ===== exchanges, exactly ===== -/
/-- the first of a row, from the k-th on, that is left -/
def lkF (o : Nat → Nat) (n S c : Nat) : Nat → Nat → Nat
  | 0, _ => 0
  | d + 1, k => if S.testBit (o (n * c + k)) = true then o (n * c + k) else lkF o n S c d (k + 1)
def lkG (o : Nat → Nat) (n S c : Nat) : Nat := lkF o n S c n 0
/-- a row that names each just once -/
def rowG (o : Nat → Nat) (n c : Nat) : Prop := (∀ i, i < n → o (n * c + i) < n) ∧ ∀ i j, i < j → j < n → ¬ o (n * c + i) = o (n * c + j)
def rowF (o : Nat → Nat) (n c : Nat) : Prop := ∀ e, e < n → ∃ i, i < n ∧ o (n * c + i) = e
theorem rowG_F {o : Nat → Nat} {n c : Nat} (h : rowG o n c) : rowF o n c := by
  intro e he
  obtain ⟨i, j, a, b, q⟩ := php n (fun i => if i = n then e else o (n * c + i)) (fun i hi => by
    show (if i = n then e else o (n * c + i)) < n
    split
    · exact he
    · exact h.1 i (by omega))
  have q : (if i = n then e else o (n * c + i)) = (if j = n then e else o (n * c + j)) := q
  rw [if_neg (by omega)] at q
  split at q
  · exact ⟨i, by omega, q⟩
  · exact absurd q (h.2 i j a (by omega))
theorem rowF_G {o : Nat → Nat} {n c : Nat} (h : rowF o n c) : rowG o n c := by
  have hex : ∀ e, ∃ i, e < n → i < n ∧ o (n * c + i) = e := fun e => by
    by_cases he : e < n
    · obtain ⟨i, q⟩ := h e he
      exact ⟨i, fun _ => q⟩
    · exact ⟨0, fun z => absurd z he⟩
  obtain ⟨p, hp⟩ : ∃ p : Nat → Nat, ∀ e, e < n → p e < n ∧ o (n * c + p e) = e := ⟨fun e => Classical.choose (hex e), fun e he => Classical.choose_spec (hex e) he⟩
  -- each place is one that was chosen
  have sur : ∀ i, i < n → ∃ e, e < n ∧ p e = i := by
    intro i hi
    obtain ⟨a, b, h1, h2, q⟩ := php n (fun e => if e = n then i else p e) (fun e he => by
      show (if e = n then i else p e) < n
      split
      · exact hi
      · exact (hp e (by omega)).1)
    have q : (if a = n then i else p a) = (if b = n then i else p b) := q
    rw [if_neg (by omega)] at q
    split at q
    · exact ⟨a, by omega, q⟩
    · have q1 := (hp a (by omega)).2
      have q2 := (hp b (by omega)).2
      rw [q] at q1
      omega
  refine ⟨fun i hi => ?_, fun i j hij hj z => ?_⟩
  · obtain ⟨e, he, rfl⟩ := sur i hi
    rw [(hp e he).2]
    exact he
  · obtain ⟨e, he, rfl⟩ := sur i (by omega)
    obtain ⟨e', he', rfl⟩ := sur j hj
    rw [(hp e he).2, (hp e' he').2] at z
    subst z
    omega
theorem lkF_ok {o : Nat → Nat} {n S c : Nat} (h : rowG o n c) : ∀ d k, k + d = n → (∃ i, k ≤ i ∧ i < n ∧ S.testBit (o (n * c + i)) = true) → lkF o n S c d k < n ∧ S.testBit (lkF o n S c d k) = true
  | 0, k, hk, hx => by
    obtain ⟨i, a, b, _⟩ := hx
    omega
  | d + 1, k, hk, hx => by
    unfold lkF
    by_cases q : S.testBit (o (n * c + k)) = true
    · rw [if_pos q]
      exact ⟨h.1 k (by omega), q⟩
    · rw [if_neg q]
      refine lkF_ok h d (k + 1) (by omega) ?_
      obtain ⟨i, a, b, e⟩ := hx
      refine ⟨i, ?_, b, e⟩
      rcases (by omega : k = i ∨ k + 1 ≤ i) with rfl | z
      · exact absurd e q
      · exact z
theorem lkG_ok {o : Nat → Nat} {n S c : Nat} (h : rowG o n c) (hS : ∃ e, e < n ∧ S.testBit e = true) : lkG o n S c < n ∧ S.testBit (lkG o n S c) = true := by
  obtain ⟨e, he, hb⟩ := hS
  obtain ⟨i, hi, q⟩ := rowG_F h e he
  exact lkF_ok h n 0 (by omega) ⟨i, by omega, hi, by rw [q]; exact hb⟩
/-- bits of the first k -/
def orF (f : Nat → Nat) : Nat → Nat
  | 0 => 0
  | k + 1 => orF f k ||| 2 ^ f k
theorem orF_tb {f : Nat → Nat} {x : Nat} : ∀ k, ((orF f k).testBit x = true ↔ ∃ i, i < k ∧ f i = x)
  | 0 => by
    constructor
    · intro h
      have : (0 : Nat).testBit x = true := h
      rw [Nat.zero_testBit] at this
      cases this
    · rintro ⟨i, hi, _⟩
      omega
  | k + 1 => by
    show (orF f k ||| 2 ^ f k).testBit x = true ↔ _
    rw [tb_or, Bool.or_eq_true, orF_tb k, decide_eq_true_eq]
    constructor
    · rintro (⟨i, hi, e⟩ | e)
      · exact ⟨i, by omega, e⟩
      · exact ⟨k, by omega, e⟩
    · rintro ⟨i, hi, e⟩
      rcases (by omega : i < k ∨ i = k) with q | rfl
      · exact Or.inl ⟨i, q, e⟩
      · exact Or.inr e
theorem orF_lt {f : Nat → Nat} : ∀ {k : Nat}, (∀ i, i < k → f i < 6) → orF f k < 64
  | 0, _ => (by decide : 0 < 64)
  | k + 1, h => (or_n (orF_lt (k := k) (fun i hi => h i (by omega))) (h k (by omega))).2
theorem tb_ext {a b : Nat} (h : ∀ x, a.testBit x = true ↔ b.testBit x = true) : a = b := Nat.eq_of_testBit_eq fun x => by
  have q := h x
  cases ha : a.testBit x <;> cases hb : b.testBit x
  · rfl
  · rw [ha, hb] at q; exact absurd (q.mpr rfl) (by decide)
  · rw [ha, hb] at q; exact absurd (q.mp rfl) (by decide)
  · rfl
/-- those in the ring to which c points in the end -/
def rgN (G : Nat → Nat) (c n : Nat) : Nat := orF (fun i => itG G c (n + i)) n
theorem it_per {G : Nat → Nat} {c i d : Nat} (h : itG G c (i + d) = itG G c i) : ∀ m, itG G c (i + d + m) = itG G c (i + m) := fun m => itG_eq h m
/-- what comes round again holds all that follows -/
theorem per_in {G : Nat → Nat} {c a d : Nat} (hd : 1 ≤ d) (h : itG G c (a + d) = itG G c a) : ∀ m, ∃ i, i < d ∧ itG G c (a + m) = itG G c (a + i) := by
  intro m
  induction m using Nat.strongRecOn with
  | _ m ih =>
    rcases Nat.lt_or_ge m d with q | q
    · exact ⟨m, q, rfl⟩
    · obtain ⟨i, hi, e⟩ := ih (m - d) (by omega)
      refine ⟨i, hi, ?_⟩
      rw [← e, ← itG_eq h (m - d), show a + d + (m - d) = a + m by omega]
theorem it_n {G : Nat → Nat} {c n : Nat} (hl : ∀ k, itG G c k < n) : ∃ d, 1 ≤ d ∧ d ≤ n ∧ itG G c (n + d) = itG G c n := by
  obtain ⟨i, j, a, b, q⟩ := php n (itG G c) (fun i _ => hl i)
  have q2 := itG_eq q (n - i)
  rw [show i + (n - i) = n by omega, show j + (n - i) = n + (j - i) by omega] at q2
  exact ⟨j - i, by omega, by omega, q2.symm⟩
theorem rgN_in {G : Nat → Nat} {c n : Nat} (hl : ∀ k, itG G c k < n) (m : Nat) : (rgN G c n).testBit (itG G c (n + m)) = true := by
  obtain ⟨d, d1, d2, e⟩ := it_n hl
  obtain ⟨i, hi, q⟩ := per_in d1 e m
  exact (orF_tb n).mpr ⟨i, by omega, q.symm⟩
theorem rgN_of {G : Nat → Nat} {c n x : Nat} (h : (rgN G c n).testBit x = true) : ∃ m, itG G c (n + m) = x := by
  obtain ⟨i, _, e⟩ := (orF_tb n).mp h
  exact ⟨i, e⟩
/-- bits that hold only such, and all such, are the ring's -/
theorem rgN_eq {G : Nat → Nat} {c n g : Nat} (hl : ∀ k, itG G c k < n) (h1 : ∀ x, g.testBit x = true → ∃ m, itG G c (n + m) = x) (h2 : ∀ m, g.testBit (itG G c (n + m)) = true) : g = rgN G c n := tb_ext fun x => ⟨fun h => by
  obtain ⟨m, rfl⟩ := h1 x h
  exact rgN_in hl m, fun h => by
  obtain ⟨m, rfl⟩ := rgN_of h
  exact h2 m⟩
def lwF (S : Nat) : Nat → Nat → Nat
  | 0, k => k
  | d + 1, k => if S.testBit k = true then k else lwF S d (k + 1)
def lwN (S : Nat) : Nat := lwF S 6 0
theorem lwN_ok : ∀ n, n ≤ 6 → ∀ S, S < 2 ^ n → ¬ S = 0 → lwN S < n ∧ S.testBit (lwN S) = true := by decide +kernel
theorem lwN_lt : ∀ S, S < 64 → ∀ k, k < 6 → k < lwN S → S.testBit k = false := by decide +kernel
/-- all rings, one behind the other -/
def exS (o : Nat → Nat) (n : Nat) : Nat → Nat → (Nat → Nat) → Nat → Nat
  | 0, _, got => got
  | f + 1, S, got => if S = 0 then got else exS o n f (S &&& (63 ^^^ rgN (lkG o n S) (lwN S) n)) (fun x => if (rgN (lkG o n S) (lwN S) n).testBit x = true then lkG o n S x else got x)
theorem exS_0 {o : Nat → Nat} {n : Nat} {got : Nat → Nat} : ∀ f, exS o n f 0 got = got
  | 0 => rfl
  | f + 1 => if_pos rfl
theorem pc_dif {S R e : Nat} (hS : S < 64) (hR : R < 64) (he : e < 6) (h1 : S.testBit e = true) (h2 : R.testBit e = true) : pcN (S &&& (63 ^^^ R)) 6 < pcN S 6 := by
  have q : ∀ k, k ≤ 6 → pcN (S &&& (63 ^^^ R)) k ≤ pcN S k ∧ (e < k → pcN (S &&& (63 ^^^ R)) k < pcN S k) := by
    intro k
    induction k with
    | zero => exact fun _ => ⟨Nat.le_refl _, fun z => by omega⟩
    | succ k ih =>
      intro hk
      obtain ⟨a, b⟩ := ih (by omega)
      have c : (S &&& (63 ^^^ R)).testBit k = true → S.testBit k = true := fun z => by
        rw [Nat.testBit_and, Bool.and_eq_true] at z
        exact z.1
      unfold pcN
      constructor
      · by_cases z : (S &&& (63 ^^^ R)).testBit k = true
        · rw [if_pos z, if_pos (c z)]; omega
        · rw [if_neg z]; omega
      · intro hek
        rcases (by omega : e < k ∨ e = k) with z | rfl
        · have b := b z
          by_cases z : (S &&& (63 ^^^ R)).testBit k = true
          · rw [if_pos z, if_pos (c z)]; omega
          · rw [if_neg z]; omega
        · rw [tb_dif h2 he, if_neg (by decide), if_pos h1]
          omega
  exact (q 6 (by omega)).2 he
theorem pc_0 : ∀ S, S < 64 → pcN S 6 = 0 → S = 0 := by decide +kernel
theorem pc_full : ∀ n, n ≤ 6 → pcN (2 ^ n - 1) 6 = n ∧ 2 ^ n - 1 < 64 ∧ 2 ^ n - 1 < 2 ^ n := by decide +kernel
theorem and_lt {S R n : Nat} (h : S < 2 ^ n) : S &&& R < 2 ^ n := Nat.lt_of_le_of_lt Nat.and_le_left h
def exV (o : Nat → Nat) (n : Nat) : Nat → Nat := exS o n n (2 ^ n - 1) (fun _ => 0)
def exY (o : Nat → Nat) (n w : Nat) (y : Int32) : Prop := (y = -2 ∧ ∃ c, c < n ∧ ¬ rowG o n c) ∨ ((∀ c, c < n → rowG o n c) ∧ y = nI (exV o n w))
theorem exY_eq {o : Nat → Nat} {n w : Nat} {y y' : Int32} (h : exY o n w y) (h' : exY o n w y') : y = y' := by
  rcases h with ⟨rfl, c, hc, hb⟩ | ⟨hg, rfl⟩ <;> rcases h' with ⟨rfl, c', hc', hb'⟩ | ⟨hg', rfl⟩
  · rfl
  · exact absurd (hg' c hc) hb
  · exact absurd (hg c' hc') hb'
  · rfl
/-- what is kept at the head of the rounds: S are left -/
def exI (o : Nat → Nat) (n f S : Nat) (gt : Nat → Int32) : Prop := S < 2 ^ n ∧ pcN S 6 ≤ f ∧ ∃ got : Nat → Nat, exS o n f S got = exV o n ∧ ∀ x, x < n → ¬ S.testBit x = true → gt x = nI (got x)
theorem exI_0 {o : Nat → Nat} {n : Nat} {gt : Nat → Int32} (hn : n ≤ 6) : exI o n n (2 ^ n - 1) gt := ⟨(pc_full n hn).2.2, by rw [(pc_full n hn).1]; omega, fun _ => 0, rfl, fun x hx z => absurd (by rw [Nat.testBit_two_pow_sub_one]; exact decide_eq_true hx) z⟩
theorem exI_end {o : Nat → Nat} {n f w : Nat} {gt : Nat → Int32} (h : exI o n f 0 gt) (hw : w < n) : gt w = nI (exV o n w) := by
  obtain ⟨_, _, got, e, q⟩ := h
  rw [q w hw (by rw [Nat.zero_testBit]; decide), ← e, exS_0]
theorem lkG_it {o : Nat → Nat} {n S : Nat} (hR : ∀ c, c < n → rowG o n c) (hS : ∃ e, e < n ∧ S.testBit e = true) {c : Nat} (hc : c < n) : ∀ k, itG (lkG o n S) c k < n
  | 0 => hc
  | k + 1 => (lkG_ok (hR _ (lkG_it hR hS hc k)) hS).1
theorem exI_go {o : Nat → Nat} {n f S : Nat} {gt gt' : Nat → Int32} (hn : n ≤ 6) (hR : ∀ c, c < n → rowG o n c) (h : exI o n f S gt) (h0 : ¬ S = 0) (hg : ∀ x, x < n → ((rgN (lkG o n S) (lwN S) n).testBit x = true → gt' x = nI (lkG o n S x)) ∧ (¬ (rgN (lkG o n S) (lwN S) n).testBit x = true → gt' x = gt x)) : ∃ f', f = f' + 1 ∧ exI o n f' (S &&& (63 ^^^ rgN (lkG o n S) (lwN S) n)) gt' := by
  obtain ⟨h1, h2, got, e, q⟩ := h
  have hS6 := p64 hn h1
  obtain ⟨l1, l2⟩ := lwN_ok n hn S h1 h0
  have hS : ∃ e, e < n ∧ S.testBit e = true := ⟨_, l1, l2⟩
  have hit := lkG_it hR hS l1
  have n1 : 1 ≤ n := by omega
  obtain ⟨m, rfl⟩ : ∃ m, n = m + 1 := ⟨n - 1, by omega⟩
  have inS : S.testBit (itG (lkG o (m + 1) S) (lwN S) (m + 1)) = true := (lkG_ok (hR _ (hit m)) hS).2
  have inR := rgN_in (n := m + 1) hit 0
  have rl : rgN (lkG o (m + 1) S) (lwN S) (m + 1) < 64 := orF_lt (fun i _ => by have := hit (m + 1 + i); omega)
  have pd := pc_dif hS6 rl (by have := hit (m + 1); omega) inS inR
  obtain ⟨f', rfl⟩ : ∃ f', f = f' + 1 := ⟨f - 1, by omega⟩
  refine ⟨f', rfl, and_lt h1, by omega, fun x => if (rgN (lkG o (m + 1) S) (lwN S) (m + 1)).testBit x = true then lkG o (m + 1) S x else got x, ?_, fun x hx hb => ?_⟩
  · rw [← e]
    show _ = (if S = 0 then got else _)
    rw [if_neg h0]
  · by_cases z : (rgN (lkG o (m + 1) S) (lwN S) (m + 1)).testBit x = true
    · rw [(hg x hx).1 z]
      show _ = nI (if _ then _ else _)
      rw [if_pos z]
    · rw [(hg x hx).2 z]
      show _ = nI (if _ then _ else _)
      rw [if_neg z]
      refine q x hx (fun w => hb ?_)
      rw [Nat.testBit_and, Nat.testBit_xor, w]
      have k6 : ∀ x, x < 6 → (63 : Nat).testBit x = true := by decide
      rw [k6 x (by omega)]
      cases hz : (rgN (lkG o (m + 1) S) (lwN S) (m + 1)).testBit x
      · rfl
      · exact absurd hz z

