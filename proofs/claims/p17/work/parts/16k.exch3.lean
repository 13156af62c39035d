/-! ===== exchanges of the class, exactly ===== -/
abbrev obC (tb : Nat → Int32) (o : Nat → Nat) (n : Nat) : Prop := ∀ i, i < n → o i ≤ 255 ∧ tb i = nI (o i)
theorem idx_c {n c k : Nat} : f_add (f_mul (nI c) (nI n)) (nI k) = nI (n * c + k) := by
  show nI c * nI n + nI k = _
  rw [nI_mul, nI_add, Nat.mul_comm]
theorem g_X10_at {l : Launch} {Tape_bytes : Nat → Int32}  {K : Int32} {s k : Nat} (eK : K = nI k) (hs : s ≤ 260) (hk : k < s) : MetP l 1 yX10_at cX10_at 2 (some .int) 0 0 [.inr (some (.inl 0)), .inl K] [.inr (9, [.inr (some (.inl 1)), .inl ((nI s))]), .inl (0, 260, Tape_bytes)] (fun r h' => r = some (.inl (Tape_bytes k)) ∧ h' = [.inr (9, [.inr (some (.inl 1)), .inl ((nI s))]), .inl (0, 260, Tape_bytes)]) := by
  subst eK
  exact c_X10_at hs hk
set_option maxRecDepth 100000 in
theorem c_X8_likedMost {l : Launch} {Rid_bits Rid_grains : Int32} {Rid_fewest Rid_got Tape_bytes : Nat → Int32}  {o : Nat → Nat} {n S c s : Nat} (hn : n ≤ 6) (hc : c < n) (hS : S < 64) (hR : rowG o n c) (hx : ∃ e, e < n ∧ S.testBit e = true) (hs : s ≤ 260) (hns : n * n ≤ s) (hb : obC Tape_bytes o 36) : MetP l 2 yX8_likedMost cX8_likedMost 6 (some .int) 0 0 [.inr (some (.inl 0)), .inl (nI c), .inl (nI S), .inl (nI n)] [.inr (7, [.inr (some (.inl 3)), .inr (some (.inl 1)), .inr (some (.inl 2)), .inl Rid_bits, .inl Rid_grains]), .inl (0, 601, Rid_fewest), .inl (0, 6, Rid_got), .inr (9, [.inr (some (.inl 4)), .inl ((nI s))]), .inl (0, 260, Tape_bytes)] (fun r h' => r = some (.inl (nI (lkG o n S c))) ∧ h' = [.inr (7, [.inr (some (.inl 3)), .inr (some (.inl 1)), .inr (some (.inl 2)), .inl Rid_bits, .inl Rid_grains]), .inl (0, 601, Rid_fewest), .inl (0, 6, Rid_got), .inr (9, [.inr (some (.inl 4)), .inl ((nI s))]), .inl (0, 260, Tape_bytes)]) := by
  obtain ⟨e, he, hbe⟩ := hx
  obtain ⟨i0, hi0, ei0⟩ := rowG_F hR e he
  refine m_X8_likedMost (fun μ L st h => ∃ (k : Nat) (z : Option PV), μ = n - k ∧ k ≤ i0 ∧ lkF o n S c (n - k) k = lkG o n S c ∧ L = [some (.inr (some (.inl 0))), some (.inl (nI c)), some (.inl (nI S)), some (.inl (nI n)), some (.inl (nI k)), z] ∧ st = [] ∧ h = [.inr (7, [.inr (some (.inl 3)), .inr (some (.inl 1)), .inr (some (.inl 2)), .inl Rid_bits, .inl Rid_grains]), .inl (0, 601, Rid_fewest), .inl (0, 6, Rid_got), .inr (9, [.inr (some (.inl 4)), .inl ((nI s))]), .inl (0, 260, Tape_bytes)]) (Nat.le_of_ble_eq_true rfl) ?_ ?_
  · exact ⟨_, 0, _, rfl, by omega, rfl, rfl, rfl, rfl⟩
  · rintro μ L st h ⟨k, z, hμ, h1, h2, rfl, rfl, rfl⟩
    have hlt := mul_lt hn hc (show k < n by omega)
    have hls : n * c + k < n * n := by
      have : n * c + n ≤ n * n := by
        have := Nat.mul_le_mul_left n (show c + 1 ≤ n by omega)
        rw [Nat.mul_add, Nat.mul_one] at this
        exact this
      omega
    have o1 := (hb (n * c + k) (by omega)).2
    have o3 := hR.1 k (by omega)
    refine And.intro (fun q => absurd ((nI_leI (by omega) (by omega)).mp q) (by omega)) (fun _ => ?_)
    refine call0 (g_X10_at (s := s) (k := n * c + k) idx_c hs (by omega)) rfl rfl ?_
    rintro r h' ⟨rfl, rfl⟩
    rw [o1]
    have e1 : f_sub (nI n) 1 = nI (n - 1) := fsub_n (b := 1) (by omega)
    refine call0 (c_within) rfl rfl ?_
    rintro r h' ⟨rfl, rfl⟩
    refine br_b (fun w => absurd ⟨(nI_leI (a := 0) (by omega) (by omega)).mpr (by omega), (by rw [e1]; exact (nI_leI (by omega) (by omega)).mpr (by omega) : nI (o (n * c + k)) ≤ f_sub (nI n) 1)⟩ w) (fun _ => ?_)
    have hu : lkF o n S c (n - k) k = (if S.testBit (o (n * c + k)) = true then o (n * c + k) else lkF o n S c (n - (k + 1)) (k + 1)) := by
      rw [show n - k = (n - (k + 1)) + 1 by omega]
      rfl
    refine And.intro (fun w => ?_) (fun w => ?_)
    · have w := (has_n hS (by omega)).mp w
      rw [if_pos w] at hu
      rw [← hu, h2]
      exact ⟨rfl, rfl⟩
    · have w : ¬ S.testBit (o (n * c + k)) = true := fun z => w ((has_n hS (by omega)).mpr z)
      rw [if_neg w] at hu
      have hk : ¬ k = i0 := fun z => w (by rw [z, ei0]; exact hbe)
      exact ⟨n - (k + 1), by omega, k + 1, _, rfl, by omega, by rw [← hu, h2], by rw [← nI_1 k] <;> rfl, rfl, rfl⟩
/-- the lowest bit, as the machine's own method finds it -/
def ntV (x : Int32) : Int32 :=
  let a := f_and (f_xor x (-1)) (f_sub x 1)
  if 0 < a then
    let p : Int32 × Int32 := (1, a)
    let p : Int32 × Int32 := if p.2 ≤ 65536 then p else (f_add p.1 16, f_ushr p.2 16)
    let p : Int32 × Int32 := if p.2 ≤ 256 then p else (f_add p.1 8, f_ushr p.2 8)
    let p : Int32 × Int32 := if p.2 ≤ 16 then p else (f_add p.1 4, f_ushr p.2 4)
    let p : Int32 × Int32 := if p.2 ≤ 4 then p else (f_add p.1 2, f_ushr p.2 2)
    f_add p.1 (f_ushr p.2 1)
  else f_and a 32
theorem ntV_n : ∀ S, S < 64 → ¬ S = 0 → ntV (nI S) = nI (lwN S) := by decide +kernel
set_option maxRecDepth 100000 in
theorem c_ntz {l : Launch} {x : Int32} : MetP l 0 yJ6_numberOfTrailingZeros_0f7a4 cJ6_numberOfTrailingZeros_0f7a4 2 (some .int) 0 0 [.inl x] [] (fun r h' => r = some (.inl (ntV x)) ∧ h' = []) := by
  refine m_J6_numberOfTrailingZeros_0f7a4 (Nat.le_of_ble_eq_true rfl) ?_
  unfold ntV
  refine And.intro (fun (q : (0 : Int32) < f_and (f_xor x (-1)) (f_sub x 1)) => ?_) (fun (q : ¬ (0 : Int32) < f_and (f_xor x (-1)) (f_sub x 1)) => ?_)
  · dsimp only
    rw [if_pos q]
    have s4 : ∀ {u v : Int32}, b_J6_numberOfTrailingZeros_0f7a4_62 l (fun r h' => r = some (.inl (f_add (if v ≤ 4 then (u, v) else (f_add u 2, f_ushr v 2)).1 (f_ushr (if v ≤ 4 then (u, v) else (f_add u 2, f_ushr v 2)).2 1))) ∧ h' = []) [some (.inl v), some (.inl u)] [] [] := fun {u v} => by
      refine And.intro (fun (w : v ≤ 4) => ?_) (fun (w : ¬ v ≤ 4) => ?_)
      · rw [if_pos w]; exact ⟨rfl, rfl⟩
      · rw [if_neg w]; exact ⟨rfl, rfl⟩
    have s3 : ∀ {u v : Int32}, b_J6_numberOfTrailingZeros_0f7a4_49 l (fun r h' => r = some (.inl (let p : Int32 × Int32 := if v ≤ 16 then (u, v) else (f_add u 4, f_ushr v 4); f_add (if p.2 ≤ 4 then p else (f_add p.1 2, f_ushr p.2 2)).1 (f_ushr (if p.2 ≤ 4 then p else (f_add p.1 2, f_ushr p.2 2)).2 1))) ∧ h' = []) [some (.inl v), some (.inl u)] [] [] := fun {u v} => by
      refine And.intro (fun (w : v ≤ 16) => ?_) (fun (w : ¬ v ≤ 16) => ?_)
      · dsimp only
        rw [if_pos w]
        exact s4
      · dsimp only
        rw [if_neg w]
        exact s4
    have s2 : ∀ {u v : Int32}, b_J6_numberOfTrailingZeros_0f7a4_34 l (fun r h' => r = some (.inl (let p : Int32 × Int32 := if v ≤ 256 then (u, v) else (f_add u 8, f_ushr v 8); let p : Int32 × Int32 := if p.2 ≤ 16 then p else (f_add p.1 4, f_ushr p.2 4); f_add (if p.2 ≤ 4 then p else (f_add p.1 2, f_ushr p.2 2)).1 (f_ushr (if p.2 ≤ 4 then p else (f_add p.1 2, f_ushr p.2 2)).2 1))) ∧ h' = []) [some (.inl v), some (.inl u)] [] [] := fun {u v} => by
      refine And.intro (fun (w : v ≤ 256) => ?_) (fun (w : ¬ v ≤ 256) => ?_)
      · dsimp only
        rw [if_pos w]
        exact s3
      · dsimp only
        rw [if_neg w]
        exact s3
    refine And.intro (fun (w : f_and (f_xor x (-1)) (f_sub x 1) ≤ 65536) => ?_) (fun (w : ¬ f_and (f_xor x (-1)) (f_sub x 1) ≤ 65536) => ?_)
    · rw [if_pos w]
      exact s2
    · rw [if_neg w]
      exact s2
  · dsimp only
    rw [if_neg q]
    exact ⟨rfl, rfl⟩
set_option maxRecDepth 100000 in
theorem c_X8_changeInRing {l : Launch} {Rid_bits Rid_grains : Int32} {Rid_fewest Rid_got Tape_bytes : Nat → Int32}  {o : Nat → Nat} {n S s : Nat} (h1 : 1 ≤ n) (hn : n ≤ 6) (hS : S < 2 ^ n) (h0 : ¬ S = 0) (hR : ∀ c, c < n → rowG o n c) (hs : s ≤ 260) (hns : n * n ≤ s) (hb : obC Tape_bytes o 36) : MetP l 3 yX8_changeInRing cX8_changeInRing 7 (some .int) 0 0 [.inr (some (.inl 0)), .inl (nI S), .inl (nI n)] [.inr (7, [.inr (some (.inl 3)), .inr (some (.inl 1)), .inr (some (.inl 2)), .inl Rid_bits, .inl Rid_grains]), .inl (0, 601, Rid_fewest), .inl (0, 6, Rid_got), .inr (9, [.inr (some (.inl 4)), .inl ((nI s))]), .inl (0, 260, Tape_bytes)] (fun r h' => ∃ gt : Nat → Int32, r = some (.inl (nI (rgN (lkG o n S) (lwN S) n))) ∧ (∀ x, x < n → ((rgN (lkG o n S) (lwN S) n).testBit x = true → gt x = nI (lkG o n S x)) ∧ (¬ (rgN (lkG o n S) (lwN S) n).testBit x = true → gt x = Rid_got x)) ∧ h' = [.inr (7, [.inr (some (.inl 3)), .inr (some (.inl 1)), .inr (some (.inl 2)), .inl Rid_bits, .inl Rid_grains]), .inl (0, 601, Rid_fewest), .inl (0, 6, gt), .inr (9, [.inr (some (.inl 4)), .inl ((nI s))]), .inl (0, 260, Tape_bytes)]) := by
  have hS6 : S < 64 := p64 hn hS
  obtain ⟨l1, l2⟩ := lwN_ok n hn S hS h0
  have hx : ∃ e, e < n ∧ S.testBit e = true := ⟨_, l1, l2⟩
  have hit := lkG_it hR hx l1
  have en := ntV_n S hS6 h0
  obtain ⟨G, eG⟩ : ∃ G, G = lkG o n S := ⟨_, rfl⟩
  obtain ⟨c0, ec⟩ : ∃ c0, c0 = lwN S := ⟨_, rfl⟩
  rw [← eG, ← ec] at hit
  rw [← eG, ← ec]
  rw [← ec] at l1 l2 en
  have lk : ∀ k, lkG o n S k = G k := fun k => by rw [eG]
  refine m_X8_changeInRing (fun μ L st h => ∃ (k : Nat) (z5 z6 : Option PV), μ = 1000 + (n - k) ∧ k ≤ n ∧ L = [some (.inr (some (.inl 0))), some (.inl (nI S)), some (.inl (nI n)), some (.inl (nI (itG G c0 k))), some (.inl (nI k)), z5, z6] ∧ st = [] ∧ h = [.inr (7, [.inr (some (.inl 3)), .inr (some (.inl 1)), .inr (some (.inl 2)), .inl Rid_bits, .inl Rid_grains]), .inl (0, 601, Rid_fewest), .inl (0, 6, Rid_got), .inr (9, [.inr (some (.inl 4)), .inl ((nI s))]), .inl (0, 260, Tape_bytes)]) (fun μ L st h => ∃ (j : Nat) (gt : Nat → Int32) (z6 : Option PV), μ = n - j ∧ j ≤ n ∧ (∀ x, x < n → ((∃ i, i < j ∧ itG G c0 (n + i) = x) → gt x = nI (G x)) ∧ ((¬ ∃ i, i < j ∧ itG G c0 (n + i) = x) → gt x = Rid_got x)) ∧ L = [some (.inr (some (.inl 0))), some (.inl (nI S)), some (.inl (nI n)), some (.inl (nI (itG G c0 (n + j)))), some (.inl (nI (orF (fun i => itG G c0 (n + i)) j))), some (.inl (nI j)), z6] ∧ st = [] ∧ h = [.inr (7, [.inr (some (.inl 3)), .inr (some (.inl 1)), .inr (some (.inl 2)), .inl Rid_bits, .inl Rid_grains]), .inl (0, 601, Rid_fewest), .inl (0, 6, gt), .inr (9, [.inr (some (.inl 4)), .inl ((nI s))]), .inl (0, 260, Tape_bytes)]) (Nat.le_of_ble_eq_true rfl) ?_ ?_ ?_
  · refine call0 (c_ntz (x := nI S)) rfl rfl ?_
    rintro r h' ⟨rfl, rfl⟩
    rw [en]
    exact ⟨_, 0, _, _, rfl, by omega, rfl, rfl, rfl⟩
  · rintro μ L st h ⟨k, z5, z6, hμ, g2, rfl, rfl, rfl⟩
    refine And.intro (fun q1 => ?_) (fun q1 => ?_)
    · have q1 := (nI_leI (by omega) (by omega)).mp q1
      obtain rfl : k = n := by omega
      exact ⟨k, by omega, 0, Rid_got, z6, rfl, by omega, fun x _ => ⟨fun ⟨i, hi, _⟩ => absurd hi (Nat.not_lt_zero _), fun _ => rfl⟩, rfl, rfl, rfl⟩
    · have q1 : k < n := Nat.lt_of_not_le fun z => q1 ((nI_leI (by omega) (by omega)).mpr z)
      have hc := hit k
      refine call0 (c_X8_likedMost (o := o) (c := itG G c0 k) (s := s) hn hc hS6 (hR _ hc) hx hs hns hb) rfl rfl ?_
      rintro r h' ⟨rfl, rfl⟩
      rw [lk]
      exact ⟨1000 + (n - (k + 1)), by omega, k + 1, z5, z6, rfl, by omega, by rw [← nI_1 k] <;> rfl, rfl, rfl⟩
  · rintro μ L st h ⟨j, gt, z6, hμ, g2, g7, rfl, rfl, rfl⟩
    have hc := hit (n + j)
    have g6 : orF (fun i => itG G c0 (n + i)) j < 64 := orF_lt (fun i _ => by have := hit (n + i); omega)
    -- the end: all in the ring are there
    have fin : (∀ m, (orF (fun i => itG G c0 (n + i)) j).testBit (itG G c0 (n + m)) = true) → ∃ gt' : Nat → Int32, some (Sum.inl (nI (orF (fun i => itG G c0 (n + i)) j)) : PV) = some (.inl (nI (rgN G c0 n))) ∧ (∀ x, x < n → ((rgN G c0 n).testBit x = true → gt' x = nI (G x)) ∧ (¬ (rgN G c0 n).testBit x = true → gt' x = Rid_got x)) ∧ ([.inr (7, [.inr (some (.inl 3)), .inr (some (.inl 1)), .inr (some (.inl 2)), .inl Rid_bits, .inl Rid_grains]), .inl (0, 601, Rid_fewest), .inl (0, 6, gt), .inr (9, [.inr (some (.inl 4)), .inl ((nI s))]), .inl (0, 260, Tape_bytes)] : PH) = [.inr (7, [.inr (some (.inl 3)), .inr (some (.inl 1)), .inr (some (.inl 2)), .inl Rid_bits, .inl Rid_grains]), .inl (0, 601, Rid_fewest), .inl (0, 6, gt'), .inr (9, [.inr (some (.inl 4)), .inl ((nI s))]), .inl (0, 260, Tape_bytes)] := fun hall => by
      have eg : orF (fun i => itG G c0 (n + i)) j = rgN G c0 n := rgN_eq hit (fun x h => by
        obtain ⟨i, _, q⟩ := (orF_tb j).mp h
        exact ⟨i, q⟩) hall
      refine ⟨gt, by rw [eg], fun x hx => ?_, rfl⟩
      rw [← eg, orF_tb j]
      exact g7 x hx
    refine And.intro (fun q1 => ?_) (fun q1 => ?_)
    · have q1 := (nI_leI (by omega) (by omega)).mp q1
      obtain rfl : j = n := by omega
      exact fin (fun m => rgN_in hit m)
    · have q1 : j < n := Nat.lt_of_not_le fun z => q1 ((nI_leI (by omega) (by omega)).mpr z)
      have hb1 : f_and (f_shr (nI (orF (fun i => itG G c0 (n + i)) j)) (nI (itG G c0 (n + j)))) 1 = nI (if (orF (fun i => itG G c0 (n + i)) j).testBit (itG G c0 (n + j)) = true then 1 else 0) := bit_n (by omega)
      by_cases w : (orF (fun i => itG G c0 (n + i)) j).testBit (itG G c0 (n + j)) = true
      · rw [if_pos w] at hb1
        refine And.intro (fun z => absurd (hb1.symm.trans z) (by show ¬ ((_ : Int32) = _); decide)) (fun _ => ?_)
        obtain ⟨i, hi, e⟩ := (orF_tb j).mp w
        refine fin (fun m => (orF_tb j).mpr ?_)
        have e : itG G c0 (n + i + (j - i)) = itG G c0 (n + i) := by rw [show n + i + (j - i) = n + j by omega]; exact e.symm
        rcases Nat.lt_or_ge m i with z | z
        · exact ⟨m, by omega, rfl⟩
        · obtain ⟨q, hq, e2⟩ := per_in (by omega : 1 ≤ j - i) e (m - i)
          exact ⟨i + q, by omega, by rw [show n + m = n + i + (m - i) by omega, e2, show n + (i + q) = n + i + q by omega]⟩
      · rw [if_neg w] at hb1
        refine And.intro (fun _ => ?_) (fun z => absurd hb1 z)
        refine call0 (c_X8_likedMost (o := o) (c := itG G c0 (n + j)) (s := s) hn hc hS6 (hR _ hc) hx hs hns hb) rfl rfl ?_
        rintro r h' ⟨rfl, rfl⟩
        rw [lk]
        refine call0 (c_within) rfl rfl ?_
        rintro r h' ⟨rfl, rfl⟩
        refine br_b (fun z => absurd ((nI_bt (a := 0) (b := 5) (by omega) (by omega) (by omega)).mpr ⟨by omega, by omega⟩) z) (fun _ => ?_)
        refine And.intro (vp_in_nI (n := itG G c0 (n + j)) (by omega) (by omega)) ?_
        rw [nI_clamp (by omega)]
        obtain ⟨o1, o2⟩ := or_n g6 (by omega : itG G c0 (n + j) < 6)
        refine ⟨n - (j + 1), by omega, j + 1, _, some (.inl (nI (G (itG G c0 (n + j))))), rfl, by omega, fun x hx => ?_, ?_, rfl, rfl⟩
        · by_cases q : x = itG G c0 (n + j)
          · subst q
            rw [upd_sI]
            exact ⟨fun _ => rfl, fun z => absurd ⟨j, by omega, rfl⟩ z⟩
          · rw [upd_nI q]
            refine ⟨fun ⟨i, hi, e⟩ => (g7 x hx).1 ⟨i, ?_, e⟩, fun z => (g7 x hx).2 (fun ⟨i, hi, e⟩ => z ⟨i, by omega, e⟩)⟩
            rcases (by omega : i < j ∨ i = j) with z | rfl
            · exact z
            · exact absurd e.symm q
        · rw [o1, ← nI_1 j] <;> rfl
theorem full_tb {f : Nat → Nat} {n k : Nat} (h : orF f k = 2 ^ n - 1) : ∀ e, e < n → ∃ i, i < k ∧ f i = e := fun e he => (orF_tb k).mp (by rw [h, Nat.testBit_two_pow_sub_one]; exact decide_eq_true he)
/-- bits of those of the first k that are below n -/
def orL (f : Nat → Nat) (n : Nat) : Nat → Nat
  | 0 => 0
  | k + 1 => if f k < n then orL f n k ||| 2 ^ f k else orL f n k
theorem orL_tb {f : Nat → Nat} {n x : Nat} : ∀ k, ((orL f n k).testBit x = true ↔ ∃ i, i < k ∧ f i < n ∧ f i = x)
  | 0 => by
    constructor
    · intro h
      have : (0 : Nat).testBit x = true := h
      rw [Nat.zero_testBit] at this
      cases this
    · rintro ⟨i, hi, _⟩
      omega
  | k + 1 => by
    unfold orL
    by_cases q : f k < n
    · rw [if_pos q, tb_or, Bool.or_eq_true, orL_tb k, decide_eq_true_eq]
      constructor
      · rintro (⟨i, hi, e⟩ | e)
        · exact ⟨i, by omega, e⟩
        · exact ⟨k, by omega, q, e⟩
      · rintro ⟨i, hi, e⟩
        rcases (by omega : i < k ∨ i = k) with z | rfl
        · exact Or.inl ⟨i, z, e⟩
        · exact Or.inr e.2
    · rw [if_neg q, orL_tb k]
      constructor
      · rintro ⟨i, hi, e⟩
        exact ⟨i, by omega, e⟩
      · rintro ⟨i, hi, e⟩
        rcases (by omega : i < k ∨ i = k) with z | rfl
        · exact ⟨i, z, e⟩
        · exact absurd e.1 q
theorem orL_lt {f : Nat → Nat} {n : Nat} (hn : n ≤ 6) : ∀ k, orL f n k < 64
  | 0 => (by decide : 0 < 64)
  | k + 1 => by
    have h := orL_lt (f := f) hn k
    unfold orL
    split
    · exact (or_n h (by omega)).2
    · exact h
set_option maxRecDepth 100000 in
theorem c_X8_rowsNameEachOnce {l : Launch} {Rid_bits Rid_grains : Int32} {Rid_fewest Rid_got Tape_bytes : Nat → Int32}  {o : Nat → Nat} {n s : Nat} (hn : n ≤ 6) (hs : s ≤ 260) (hns : n * n ≤ s) (hb : obC Tape_bytes o 36) : MetP l 2 yX8_rowsNameEachOnce cX8_rowsNameEachOnce 6 (some .boolean) 0 0 [.inr (some (.inl 0)), .inl (nI n)] [.inr (7, [.inr (some (.inl 3)), .inr (some (.inl 1)), .inr (some (.inl 2)), .inl Rid_bits, .inl Rid_grains]), .inl (0, 601, Rid_fewest), .inl (0, 6, Rid_got), .inr (9, [.inr (some (.inl 4)), .inl ((nI s))]), .inl (0, 260, Tape_bytes)] (fun r h' => ((r = some (.inl 0) ∧ ∃ c, c < n ∧ ¬ rowG o n c) ∨ (r = some (.inl 1) ∧ ∀ c, c < n → rowG o n c)) ∧ h' = [.inr (7, [.inr (some (.inl 3)), .inr (some (.inl 1)), .inr (some (.inl 2)), .inl Rid_bits, .inl Rid_grains]), .inl (0, 601, Rid_fewest), .inl (0, 6, Rid_got), .inr (9, [.inr (some (.inl 4)), .inl ((nI s))]), .inl (0, 260, Tape_bytes)]) := by
  refine m_X8_rowsNameEachOnce (fun μ L st h => ∃ (c : Nat) (z3 z4 z5 : Option PV), μ = 100 * (n - c) + 50 ∧ c ≤ n ∧ (∀ j, j < c → rowG o n j) ∧ L = [some (.inr (some (.inl 0))), some (.inl (nI n)), some (.inl (nI c)), z3, z4, z5] ∧ st = [] ∧ h = [.inr (7, [.inr (some (.inl 3)), .inr (some (.inl 1)), .inr (some (.inl 2)), .inl Rid_bits, .inl Rid_grains]), .inl (0, 601, Rid_fewest), .inl (0, 6, Rid_got), .inr (9, [.inr (some (.inl 4)), .inl ((nI s))]), .inl (0, 260, Tape_bytes)]) (fun μ L st h => ∃ (c k : Nat) (z5 : Option PV), μ = 100 * (n - c) + (n - k) ∧ c < n ∧ k ≤ n ∧ (∀ j, j < c → rowG o n j) ∧ L = [some (.inr (some (.inl 0))), some (.inl (nI n)), some (.inl (nI c)), some (.inl (nI (orL (fun i => o (n * c + i)) n k))), some (.inl (nI k)), z5] ∧ st = [] ∧ h = [.inr (7, [.inr (some (.inl 3)), .inr (some (.inl 1)), .inr (some (.inl 2)), .inl Rid_bits, .inl Rid_grains]), .inl (0, 601, Rid_fewest), .inl (0, 6, Rid_got), .inr (9, [.inr (some (.inl 4)), .inl ((nI s))]), .inl (0, 260, Tape_bytes)]) (Nat.le_of_ble_eq_true rfl) ?_ ?_ ?_
  · exact ⟨_, 0, _, _, _, rfl, by omega, fun j hj => absurd hj (Nat.not_lt_zero _), rfl, rfl, rfl⟩
  · rintro μ L st h ⟨c, z3, z4, z5, hμ, h1, h2, rfl, rfl, rfl⟩
    refine And.intro (fun q1 => ?_) (fun q1 => ?_)
    · have q1 := (nI_leI (by omega) (by omega)).mp q1
      exact And.intro (Or.inr rfl) ⟨Or.inr ⟨rfl, fun j hj => h2 j (by omega)⟩, rfl⟩
    · have q1 : c < n := Nat.lt_of_not_le fun z => q1 ((nI_leI (by omega) (by omega)).mpr z)
      exact ⟨100 * (n - c) + n, by omega, c, 0, z5, rfl, q1, by omega, h2, rfl, rfl, rfl⟩
  · rintro μ L st h ⟨c, k, z5, hμ, h1, h2, h4, rfl, rfl, rfl⟩
    have lt := orL_lt (f := fun i => o (n * c + i)) hn k
    refine And.intro (fun q1 => ?_) (fun q1 => ?_)
    · have q1 := (nI_leI (by omega) (by omega)).mp q1
      obtain rfl : k = n := by omega
      have p64' := (pc_full k hn).2.1
      refine And.intro (fun (w : nI _ = f_sub (f_shl 1 (nI k)) 1) => ?_) (fun (w : ¬ nI _ = f_sub (f_shl 1 (nI k)) 1) => ?_) <;> rw [full_n hn] at w
      · have w := (nI_eq (by omega) (by omega)).mp w
        refine ⟨100 * (k - (c + 1)) + 50, by omega, c + 1, some (.inl (nI (orL (fun i => o (k * c + i)) k k))), some (.inl (nI k)), z5, rfl, by omega, fun j hj => ?_, by rw [← nI_1 c] <;> rfl, rfl, rfl⟩
        rcases (by omega : j < c ∨ j = c) with q | rfl
        · exact h4 j q
        · refine rowF_G (fun e he => ?_)
          obtain ⟨i, a, b, q⟩ := (orL_tb (f := fun i => o (k * j + i)) (n := k) (x := e) k).mp (by rw [w, Nat.testBit_two_pow_sub_one]; exact decide_eq_true he)
          exact ⟨i, a, q⟩
      · have w : ¬ orL (fun i => o (k * c + i)) k k = 2 ^ k - 1 := fun z => w ((nI_eq (by omega) (by omega)).mpr z)
        refine And.intro (Or.inl rfl) ⟨Or.inl ⟨rfl, c, h1, fun z => w (tb_ext fun x => ?_)⟩, rfl⟩
        rw [orL_tb k, Nat.testBit_two_pow_sub_one, decide_eq_true_eq]
        constructor
        · rintro ⟨i, a, b, rfl⟩
          exact b
        · intro hx
          obtain ⟨i, a, q⟩ := rowG_F z x hx
          exact ⟨i, a, z.1 i a, q⟩
    · have q1 : k < n := Nat.lt_of_not_le fun z => q1 ((nI_leI (by omega) (by omega)).mpr z)
      have hlt := mul_lt hn h1 q1
      have hls : n * c + k < n * n := by
        have : n * c + n ≤ n * n := by
          have := Nat.mul_le_mul_left n (show c + 1 ≤ n by omega)
          rw [Nat.mul_add, Nat.mul_one] at this
          exact this
        omega
      obtain ⟨o1, o2⟩ := hb (n * c + k) (by omega)
      refine call0 (g_X10_at (s := s) (k := n * c + k) idx_c hs (by omega)) rfl rfl ?_
      rintro r h' ⟨rfl, rfl⟩
      rw [o2]
      have e1 : f_sub (nI n) 1 = nI (n - 1) := fsub_n (b := 1) (by omega)
      refine call0 (c_within) rfl rfl ?_
      rintro r h' ⟨rfl, rfl⟩
      refine br_b (fun w => ?_) (fun w => ?_) <;> rw [e1] at w
      · have w : ¬ o (n * c + k) < n := fun z => w ((nI_bt (a := 0) (b := n - 1) (by omega) (by omega) (by omega)).mpr ⟨by omega, by omega⟩)
        have eo : f_or (nI (orL (fun i => o (n * c + i)) n k)) 0 = nI (orL (fun i => o (n * c + i)) n (k + 1)) := by
          show nI _ ||| 0 = nI (if o (n * c + k) < n then _ else orL (fun i => o (n * c + i)) n k)
          rw [if_neg w]
          apply b_ext
          intro i hi
          rw [b_or, b_0, Bool.or_false]
        exact ⟨100 * (n - c) + (n - (k + 1)), by omega, c, k + 1, _, rfl, h1, by omega, h4, by rw [← eo, ← nI_1 k] <;> rfl, rfl, rfl⟩
      · have w := (nI_bt (a := 0) (b := n - 1) (by omega) (by omega) (by omega)).mp w
        have w : o (n * c + k) < n := by omega
        obtain ⟨r1, r2⟩ := or_n lt (by omega : o (n * c + k) < 6)
        have eo : f_or (nI (orL (fun i => o (n * c + i)) n k)) (f_shl 1 (nI (o (n * c + k)))) = nI (orL (fun i => o (n * c + i)) n (k + 1)) := by
          rw [r1]
          show _ = nI (if o (n * c + k) < n then orL (fun i => o (n * c + i)) n k ||| 2 ^ o (n * c + k) else _)
          rw [if_pos w]
        exact ⟨100 * (n - c) + (n - (k + 1)), by omega, c, k + 1, _, rfl, h1, by omega, h4, by rw [← eo, ← nI_1 k] <;> rfl, rfl, rfl⟩
set_option maxRecDepth 100000 in
theorem c_X8_exchangeStamps {l : Launch} {Rid_bits Rid_grains : Int32} {Rid_fewest Rid_got Tape_bytes : Nat → Int32}  {o : Nat → Nat} {n s : Nat} (hn1 : 2 ≤ n) (hn : n ≤ 6) (hs : s ≤ 260) (hns : n * n ≤ s) (hb : obC Tape_bytes o 36) : MetP l 4 yX8_exchangeStamps cX8_exchangeStamps 4 (some .boolean) 0 0 [.inr (some (.inl 0)), .inl (nI n)] [.inr (7, [.inr (some (.inl 3)), .inr (some (.inl 1)), .inr (some (.inl 2)), .inl Rid_bits, .inl Rid_grains]), .inl (0, 601, Rid_fewest), .inl (0, 6, Rid_got), .inr (9, [.inr (some (.inl 4)), .inl ((nI s))]), .inl (0, 260, Tape_bytes)] (fun r h' => ∃ gt : Nat → Int32, ((r = some (.inl 0) ∧ ∃ c, c < n ∧ ¬ rowG o n c) ∨ (r = some (.inl 1) ∧ (∀ c, c < n → rowG o n c) ∧ ∀ w, w < n → gt w = nI (exV o n w))) ∧ h' = [.inr (7, [.inr (some (.inl 3)), .inr (some (.inl 1)), .inr (some (.inl 2)), .inl Rid_bits, .inl Rid_grains]), .inl (0, 601, Rid_fewest), .inl (0, 6, gt), .inr (9, [.inr (some (.inl 4)), .inl ((nI s))]), .inl (0, 260, Tape_bytes)]) := by
  refine m_X8_exchangeStamps (fun μ L st h => ∃ (S r : Nat) (gt : Nat → Int32), μ + r = n ∧ exI o n μ S gt ∧ (∀ c, c < n → rowG o n c) ∧ L = [some (.inr (some (.inl 0))), some (.inl (nI n)), some (.inl (nI S)), some (.inl (nI r))] ∧ st = [] ∧ h = [.inr (7, [.inr (some (.inl 3)), .inr (some (.inl 1)), .inr (some (.inl 2)), .inl Rid_bits, .inl Rid_grains]), .inl (0, 601, Rid_fewest), .inl (0, 6, gt), .inr (9, [.inr (some (.inl 4)), .inl ((nI s))]), .inl (0, 260, Tape_bytes)]) (Nat.le_of_ble_eq_true rfl) ?_ ?_
  · refine call0 (c_X8_rowsNameEachOnce (o := o) (n := n) (s := s) hn hs hns hb) rfl rfl ?_
    rintro r h' ⟨⟨rfl, hbad⟩ | ⟨rfl, hR⟩, rfl⟩
    · refine And.intro (fun _ => ?_) (fun z => absurd rfl z)
      exact And.intro (Or.inl rfl) ⟨Rid_got, Or.inl ⟨rfl, hbad⟩, rfl⟩
    · refine And.intro (fun z => absurd z (by show ¬ ((_ : Int32) = _); decide)) (fun _ => ?_)
      exact ⟨n, 2 ^ n - 1, 0, Rid_got, rfl, exI_0 hn, hR, by rw [← full_n hn] <;> rfl, rfl, rfl⟩
  · rintro μ L st h ⟨S, r, gt, hr, hI, hR, rfl, rfl, rfl⟩
    have hS := hI.1
    have h64 := p64 hn hS
    refine And.intro (fun q => ?_) (fun q => ?_)
    · have q := (nI_leI (by omega) (by omega)).mp q
      obtain rfl : S = 0 := pc_0 S h64 (by have := hI.2.1; omega)
      exact And.intro (Or.inr rfl) ⟨gt, Or.inr ⟨rfl, hR, fun w hw => exI_end hI hw⟩, rfl⟩
    · refine And.intro (fun q => ?_) (fun q => ?_)
      · have q := (nI_eq (b := 0) (by omega) (by omega)).mp q
        subst q
        exact And.intro (Or.inr rfl) ⟨gt, Or.inr ⟨rfl, hR, fun w hw => exI_end hI hw⟩, rfl⟩
      · have q : ¬ S = 0 := fun z => q ((nI_eq (b := 0) (by omega) (by omega)).mpr z)
        refine call0 (c_X8_changeInRing (o := o) (n := n) (S := S) (s := s) (by omega) hn hS q hR hs hns hb) rfl rfl ?_
        rintro r' h' ⟨gt', rfl, hg, rfl⟩
        obtain ⟨f', rfl, hI'⟩ := exI_go hn hR hI q hg
        have l1 := lwN_ok n hn S hS q
        have rl : rgN (lkG o n S) (lwN S) n < 64 := orF_lt (fun i _ => by have := lkG_it hR ⟨_, l1.1, l1.2⟩ l1.1 (n + i); omega)
        exact ⟨f', by omega, _, r + 1, gt', by omega, hI', hR, by rw [← nI_1 r, ← dif_n h64 rl] <;> rfl, rfl, rfl⟩
set_option maxRecDepth 100000 in
theorem c_X8_stampGotBy {l : Launch} {Rid_tape : List (Option Nat)} {Rid_bits Rid_grains : Int32} {Rid_fewest Rid_got : Nat → Int32}  {w : Nat} (hw : w < 6) : MetP l 1 yX8_stampGotBy cX8_stampGotBy 2 (some .int) 0 0 [.inr (some (.inl 0)), .inl (nI w)] [.inr (7, [.inr (some (.inr Rid_tape)), .inr (some (.inl 1)), .inr (some (.inl 2)), .inl Rid_bits, .inl Rid_grains]), .inl (0, 601, Rid_fewest), .inl (0, 6, Rid_got)] (fun r h' => r = some (.inl (Rid_got w)) ∧ h' = [.inr (7, [.inr (some (.inr Rid_tape)), .inr (some (.inl 1)), .inr (some (.inl 2)), .inl Rid_bits, .inl Rid_grains]), .inl (0, 601, Rid_fewest), .inl (0, 6, Rid_got)]) := by
  refine m_X8_stampGotBy (Nat.le_of_ble_eq_true rfl) ?_
  refine call0 (c_within) rfl rfl ?_
  rintro r h' ⟨rfl, rfl⟩
  refine br_b (fun z => absurd ((nI_bt (a := 0) (b := 5) (by omega) (by omega) (by omega)).mpr ⟨by omega, by omega⟩) z) (fun _ => ?_)
  refine And.intro (vp_in_nI (n := w) (by omega) (by omega)) ?_
  rw [nI_clamp (by omega)]
  exact ⟨rfl, rfl⟩
set_option maxRecDepth 100000 in
theorem c_X11_exchange {l : Launch} {HS_republic HS_now HS_kept HS_trial HS_clerk HS_crew HS_sheetReader HS_postReader HS_lawReader HS_seen HS_rules HS_spareRules : List (Option Nat)} {HS_wasKept Rid_bits Rid_grains : Int32} {Tape_bytes Rid_fewest Rid_got : Nat → Int32}  {o : Nat → Nat} {n s w : Nat} (hn1 : 2 ≤ n) (hn : n ≤ 6) (hw : w < n) (hs : s ≤ 260) (hns : n * n ≤ s) (hb : obC Tape_bytes o 36) : MetP l 5 yX11_exchange cX11_exchange 4 (some .int) 0 0 [.inr (some (.inl 0)), .inl (nI n), .inl (nI w)] [.inr (10, [.inr (some (.inl 1)), .inr (some (.inr HS_republic)), .inr (some (.inr HS_now)), .inr (some (.inr HS_kept)), .inr (some (.inr HS_trial)), .inr (some (.inr HS_clerk)), .inr (some (.inr HS_crew)), .inr (some (.inl 3)), .inr (some (.inr HS_sheetReader)), .inr (some (.inr HS_postReader)), .inr (some (.inr HS_lawReader)), .inr (some (.inr HS_seen)), .inr (some (.inr HS_rules)), .inr (some (.inr HS_spareRules)), .inl HS_wasKept]), .inr (9, [.inr (some (.inl 2)), .inl ((nI s))]), .inl (0, 260, Tape_bytes), .inr (7, [.inr (some (.inl 1)), .inr (some (.inl 4)), .inr (some (.inl 5)), .inl Rid_bits, .inl Rid_grains]), .inl (0, 601, Rid_fewest), .inl (0, 6, Rid_got)] (fun r h' => ∃ (gt : Nat → Int32) (y : Int32), r = some (.inl y) ∧ exY o n w y ∧ h' = [.inr (10, [.inr (some (.inl 1)), .inr (some (.inr HS_republic)), .inr (some (.inr HS_now)), .inr (some (.inr HS_kept)), .inr (some (.inr HS_trial)), .inr (some (.inr HS_clerk)), .inr (some (.inr HS_crew)), .inr (some (.inl 3)), .inr (some (.inr HS_sheetReader)), .inr (some (.inr HS_postReader)), .inr (some (.inr HS_lawReader)), .inr (some (.inr HS_seen)), .inr (some (.inr HS_rules)), .inr (some (.inr HS_spareRules)), .inl HS_wasKept]), .inr (9, [.inr (some (.inl 2)), .inl 0]), .inl (0, 260, Tape_bytes), .inr (7, [.inr (some (.inl 1)), .inr (some (.inl 4)), .inr (some (.inl 5)), .inl Rid_bits, .inl Rid_grains]), .inl (0, 601, Rid_fewest), .inl (0, 6, gt)]) := by
  have n36 : 4 ≤ n * n ∧ n * n ≤ 36 := by
    have q : ∀ n, n ≤ 6 → 2 ≤ n → 4 ≤ n * n ∧ n * n ≤ 36 := by decide
    exact q n hn hn1
  refine m_X11_exchange (Nat.le_of_ble_eq_true rfl) ?_
  refine call0 (c_within) rfl rfl ?_
  rintro r h' ⟨rfl, rfl⟩
  refine br_b (fun z => absurd ((nI_bt (a := 2) (b := 6) (by omega) (by omega) (by omega)).mpr ⟨hn1, hn⟩) z) (fun _ => ?_)
  have e1 : f_sub (nI n) 1 = nI (n - 1) := fsub_n (b := 1) (by omega)
  refine call0 (c_within) rfl rfl ?_
  rintro r h' ⟨rfl, rfl⟩
  refine br_b (fun z => absurd ⟨(nI_leI (a := 0) (b := w) (by omega) (by omega)).mpr (by omega), (by rw [e1]; exact (nI_leI (by omega) (by omega)).mpr (by omega) : nI w ≤ f_sub (nI n) 1)⟩ z) (fun _ => ?_)
  have e2 : f_mul (nI n) (nI n) = nI (n * n) := nI_mul n n
  refine call0 (c_canGive) rfl rfl ?_
  rintro r h' ⟨rfl, rfl⟩
  refine br_b (fun z => absurd (by rw [e2]; exact ⟨(nI_bt (a := 4) (b := 36) (by omega) (by omega) (by omega)).mpr n36, (nI_leI (by omega) (by omega)).mpr hns⟩) z) (fun _ => ?_)
  refine call0 (c_X8_exchangeStamps (o := o) (n := n) (s := s) hn1 hn hs hns hb) rfl rfl ?_
  rintro r h' ⟨gt, hp, rfl⟩
  rcases hp with ⟨rfl, hbad⟩ | ⟨rfl, hR, hg⟩
  · refine call0 (c_X10_empty) rfl rfl ?_
    rintro r h' ⟨rfl, rfl⟩
    refine And.intro (fun _ => ?_) (fun z => absurd rfl z)
    exact ⟨gt, -2, rfl, Or.inl ⟨rfl, hbad⟩, rfl⟩
  · refine call0 (c_X10_empty) rfl rfl ?_
    rintro r h' ⟨rfl, rfl⟩
    refine And.intro (fun z => absurd z (by show ¬ ((_ : Int32) = _); decide)) (fun _ => ?_)
    refine call0 (c_X8_stampGotBy (w := w) (by omega)) rfl rfl ?_
    rintro r h' ⟨rfl, rfl⟩
    exact ⟨gt, _, rfl, Or.inr ⟨hR, hg w hw⟩, rfl⟩

