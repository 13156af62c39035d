/-! ===== the class's readers of a sheet, one in another ===== -/
/-- what readStamps does where so many rounds are open -/
def RSt (l : Launch) (d : Nat) (b : Nat → Nat) (n op : Nat) : Prop := ∀ {SR_fault : Int32} {SR_mint SR_grains Txt : Nat → Int32} {g : Nat → Nat} {stk : Stk} {p c : Nat}, stk.length = op → p ≤ n → c ≤ 48 → txB Txt b n → stB SR_mint SR_grains g c → MetP l d yX9_readStamps cX9_readStamps 3 (some .boolean) 0 0 [.inr (some (.inl 0)), .inl (nI op)] [.inr (8, [.inr (some (.inl 3)), .inl ((nI n)), .inl ((nI p)), .inl ((aV b n p)), .inl SR_fault, .inr (some (.inl 1)), .inr (some (.inl 2)), .inl ((nI c))]), .inl (0, 48, SR_mint), .inl (0, 48, SR_grains), .inl (0, 260, Txt)] (fun r h' => (r = some (.inl 0) ∧ ∃ (k a p' c' : Nat) (ah : Int32) (fm fg : Nat → Int32), goF b n true p c g stk k a ∧ (1 ≤ k ∧ k ≤ 9) ∧ a ≤ n ∧ c' ≤ 48 ∧ h' = [.inr (8, [.inr (some (.inl 3)), .inl ((nI n)), .inl ((nI p')), .inl ah, .inl ((ftV k a)), .inr (some (.inl 1)), .inr (some (.inl 2)), .inl ((nI c'))]), .inl (0, 48, fm), .inl (0, 48, fg), .inl (0, 260, Txt)]) ∨ (r = some (.inl 1) ∧ ∃ (p' c' : Nat) (g' : Nat → Nat) (fm fg : Nat → Int32), goT b n true p c g stk false p' c' g' stk ∧ p < p' ∧ p' ≤ n ∧ c < c' ∧ c' ≤ 48 ∧ stB fm fg g' c' ∧ (stk = [] ∧ n ≤ p' ∨ ¬ stk = [] ∧ hr b n p' = 41) ∧ h' = [.inr (8, [.inr (some (.inl 3)), .inl ((nI n)), .inl ((nI p')), .inl ((aV b n p')), .inl SR_fault, .inr (some (.inl 1)), .inr (some (.inl 2)), .inl ((nI c'))]), .inl (0, 48, fm), .inl (0, 48, fg), .inl (0, 260, Txt)]))
def ROn (l : Launch) (d : Nat) (b : Nat → Nat) (n op : Nat) : Prop := ∀ {SR_fault : Int32} {SR_mint SR_grains Txt : Nat → Int32} {g : Nat → Nat} {stk : Stk} {p c : Nat}, stk.length = op → p ≤ n → c ≤ 48 → txB Txt b n → stB SR_mint SR_grains g c → MetP l d yX9_readOne cX9_readOne 4 (some .boolean) 0 0 [.inr (some (.inl 0)), .inl (nI op)] [.inr (8, [.inr (some (.inl 3)), .inl ((nI n)), .inl ((nI p)), .inl ((aV b n p)), .inl SR_fault, .inr (some (.inl 1)), .inr (some (.inl 2)), .inl ((nI c))]), .inl (0, 48, SR_mint), .inl (0, 48, SR_grains), .inl (0, 260, Txt)] (fun r h' => (r = some (.inl 0) ∧ ∃ (k a p' c' : Nat) (ah : Int32) (fm fg : Nat → Int32), goF b n true p c g stk k a ∧ (1 ≤ k ∧ k ≤ 9) ∧ a ≤ n ∧ c' ≤ 48 ∧ h' = [.inr (8, [.inr (some (.inl 3)), .inl ((nI n)), .inl ((nI p')), .inl ah, .inl ((ftV k a)), .inr (some (.inl 1)), .inr (some (.inl 2)), .inl ((nI c'))]), .inl (0, 48, fm), .inl (0, 48, fg), .inl (0, 260, Txt)]) ∨ (r = some (.inl 1) ∧ ∃ (p' c' : Nat) (g' : Nat → Nat) (fm fg : Nat → Int32), goT b n true p c g stk false p' c' g' stk ∧ p < p' ∧ p' ≤ n ∧ c < c' ∧ c' ≤ 48 ∧ stB fm fg g' c' ∧ h' = [.inr (8, [.inr (some (.inl 3)), .inl ((nI n)), .inl ((nI p')), .inl ((aV b n p')), .inl SR_fault, .inr (some (.inl 1)), .inr (some (.inl 2)), .inl ((nI c'))]), .inl (0, 48, fm), .inl (0, 48, fg), .inl (0, 260, Txt)]))
set_option maxRecDepth 100000 in
theorem c_X9_readRound {l : Launch} {SR_fault : Int32} {SR_mint SR_grains Txt : Nat → Int32}  {b g : Nat → Nat} {stk : Stk} {n p q tm c op d : Nat} (hS : op < 2 → RSt l d b n (op + 1)) (hop : stk.length = op) (ho2 : op ≤ 2) (hn : n ≤ 60) (hp : p ≤ n) (hc : c ≤ 48) (eq : q = tmQ b n p) (et : tm = tmN b n p) (ho : hr b n q = 40) (hb : txB Txt b n) (hg : stB SR_mint SR_grains g c) : MetP l (d + 1) yX9_readRound cX9_readRound 7 (some .boolean) 0 0 [.inr (some (.inl 0)), .inl (nI op), .inl (nI p), .inl (nI tm)] [.inr (8, [.inr (some (.inl 3)), .inl ((nI n)), .inl ((nI q)), .inl ((aV b n q)), .inl SR_fault, .inr (some (.inl 1)), .inr (some (.inl 2)), .inl ((nI c))]), .inl (0, 48, SR_mint), .inl (0, 48, SR_grains), .inl (0, 260, Txt)] (fun r h' => (r = some (.inl 0) ∧ ∃ (k a p' c' : Nat) (ah : Int32) (fm fg : Nat → Int32), goF b n true p c g stk k a ∧ (1 ≤ k ∧ k ≤ 9) ∧ a ≤ n ∧ c' ≤ 48 ∧ h' = [.inr (8, [.inr (some (.inl 3)), .inl ((nI n)), .inl ((nI p')), .inl ah, .inl ((ftV k a)), .inr (some (.inl 1)), .inr (some (.inl 2)), .inl ((nI c'))]), .inl (0, 48, fm), .inl (0, 48, fg), .inl (0, 260, Txt)]) ∨ (r = some (.inl 1) ∧ ∃ (p' c' : Nat) (g' : Nat → Nat) (fm fg : Nat → Int32), goT b n true p c g stk false p' c' g' stk ∧ p < p' ∧ p' ≤ n ∧ c < c' ∧ c' ≤ 48 ∧ stB fm fg g' c' ∧ h' = [.inr (8, [.inr (some (.inl 3)), .inl ((nI n)), .inl ((nI p')), .inl ((aV b n p')), .inl SR_fault, .inr (some (.inl 1)), .inr (some (.inl 2)), .inl ((nI c'))]), .inl (0, 48, fm), .inl (0, 48, fg), .inl (0, 260, Txt)])) := by
  obtain ⟨t0, tq, t1, t9⟩ := tm_le (b := b) hp
  rw [← et] at t1 t9
  rw [← eq] at t0 tq
  have hqn := hr_lt ho (by omega)
  by_cases h2 : op < 2
  · have hs2 : ¬ stk.length = 2 := by omega
    have so := st_open (b := b) (n := n) (p := p) (c := c) (g := g) (stk := stk) (by rw [← eq]; exact ho) hs2
    rw [← eq, ← et] at so
    refine m_X9_readRound d (by omega) (fun μ L st h => ∃ (s p' c' : Nat) (g' : Nat → Nat) (fm fg : Nat → Int32), μ = (c' - c) * (tm - 1) - s ∧ s ≤ (c' - c) * (tm - 1) ∧ c < c' ∧ c' + (c' - c) * (tm - 1) ≤ 48 ∧ p < p' ∧ p' < n ∧ hr b n p' = 41 ∧ goT b n true p c g stk false p' c' g' ((p, c, tm) :: stk) ∧ stB fm fg (cpF g' c' (c' - c) s) (c' + s) ∧ L = [some (.inr (some (.inl 0))), some (.inl (nI op)), some (.inl (nI p)), some (.inl (nI tm)), some (.inl (nI c)), some (.inl (nI ((c' - c) * (tm - 1)))), some (.inl (nI (c + s)))] ∧ st = [] ∧ h = [.inr (8, [.inr (some (.inl 3)), .inl ((nI n)), .inl ((nI (p' + 1))), .inl ((aV b n (p' + 1))), .inl SR_fault, .inr (some (.inl 1)), .inr (some (.inl 2)), .inl ((nI (c' + s)))]), .inl (0, 48, fm), .inl (0, 48, fg), .inl (0, 260, Txt)]) (Nat.le_of_ble_eq_true rfl) ?_ ?_
    · refine And.intro (fun _ => ?_) (fun z => absurd ((nI_ltI (b := 2) (by omega) (by omega)).mpr h2) z)
      refine call0 (c_X6_skip_S (n := n) (q := q + 1) (b := b) (by omega) (by omega) (nI_1 q) hb) rfl rfl ?_
      rintro r h' ⟨rfl, rfl⟩
      have ht := hS h2 (g := g) (stk := (p, c, tm) :: stk) (p := q + 1) (c := c) (SR_fault := SR_fault) (SR_mint := SR_mint) (SR_grains := SR_grains) (Txt := Txt) (by show stk.length + 1 = op + 1; omega) (by omega) hc hb hg
      rw [← nI_1 op] at ht
      refine call0 ht rfl rfl ?_
      rintro r h' (⟨rfl, k, a, p', c', ah, fm, fg, f1, f2, f3, fc, rfl⟩ | ⟨rfl, p', c', g', fm, fg, f1, f2, f3, f4, f5, f6, f7, rfl⟩)
      · refine And.intro (fun _ => ?_) (fun z => absurd rfl z)
        exact And.intro (Or.inl rfl) (Or.inl ⟨rfl, k, a, p', c', ah, fm, fg, goT_F so f1, f2, f3, fc, rfl⟩)
      · refine And.intro (fun z => absurd z (by show ¬ ((_ : Int32) = _); decide)) (fun _ => ?_)
        rcases f7 with ⟨z, _⟩ | ⟨_, f7⟩
        · cases z
        have hp' := hr_lt f7 (by omega)
        refine call0 (c_X6_skip_S (n := n) (q := p' + 1) (b := b) (by omega) (by omega) (nI_1 p') hb) rfl rfl ?_
        rintro r h' ⟨rfl, rfl⟩
        have em : f_mul (f_sub (nI c') (nI c)) (f_sub (nI tm) 1) = nI ((c' - c) * (tm - 1)) := by
          rw [fsub_n (by omega), show f_sub (nI tm) 1 = nI (tm - 1) from fsub_n (b := 1) (by omega)]
          exact nI_mul _ _
        have mb : (c' - c) * (tm - 1) ≤ 48 * 8 := Nat.mul_le_mul (by omega) (by omega)
        refine And.intro (fun (v : f_add (nI c') (f_mul (f_sub (nI c') (nI c)) (f_sub (nI tm) 1)) ≤ 48) => ?_) (fun (v : ¬ f_add (nI c') (f_mul (f_sub (nI c') (nI c)) (f_sub (nI tm) 1)) ≤ 48) => ?_) <;> rw [em] at v
        · have v : c' + (c' - c) * (tm - 1) ≤ 48 := (nI_leI (b := 48) (by omega) (by omega)).mp (by rw [← nI_add]; exact v)
          exact ⟨_, 0, p', c', g', fm, fg, rfl, by omega, f4, v, by omega, hp', f7, goT_go so f1, f6, by rw [← em] <;> rfl, rfl, rfl⟩
        · have v : 48 < c' + (c' - c) * (tm - 1) := Nat.lt_of_not_le fun z => v (by show nI c' + nI _ ≤ nI 48; rw [nI_add]; exact (nI_leI (by omega) (by omega)).mpr z)
          refine call0 (c_X6_fails_S) rfl rfl ?_
          rintro r h' ⟨rfl, rfl⟩
          exact And.intro (Or.inl rfl) (Or.inl ⟨rfl, 6, p, p' + 1, c', _, fm, fg, goT_F so (goT_F f1 (st_cfull f7 v)), by omega, hp, by omega, rfl⟩)
    · rintro μ L st h ⟨s, p', c', g', fm, fg, hμ, i1, i2, i3, i4, i5, i6, i7, i8, rfl, rfl, rfl⟩
      have mb : (c' - c) * (tm - 1) ≤ 48 * 8 := Nat.mul_le_mul (by omega) (by omega)
      refine And.intro (fun (v : f_add (nI c) (nI ((c' - c) * (tm - 1))) ≤ nI (c + s)) => ?_) (fun (v : ¬ f_add (nI c) (nI ((c' - c) * (tm - 1))) ≤ nI (c + s)) => ?_)
      · have v : c + (c' - c) * (tm - 1) ≤ c + s := (nI_leI (by omega) (by omega)).mp (by rw [← nI_add]; exact v)
        obtain rfl : s = (c' - c) * (tm - 1) := by omega
        exact And.intro (Or.inr rfl) (Or.inr ⟨rfl, p' + 1, c' + (c' - c) * (tm - 1), _, fm, fg, goT_go i7 (st_close i6 (by omega)), by omega, by omega, by omega, i3, i8, rfl⟩)
      · have v : s < (c' - c) * (tm - 1) := Nat.lt_of_not_le fun z => v (by show nI c + nI _ ≤ _; rw [nI_add]; exact (nI_leI (by omega) (by omega)).mpr (by omega))
        refine And.intro (fun w => absurd ((nI_leI (by omega) (by omega)).mp w) (by omega)) (fun _ => ?_)
        refine And.intro (vp_in_nI (n := c + s) (by omega) (by omega)) ?_
        refine And.intro (vp_in_nI (n := c + s) (by omega) (by omega)) ?_
        rw [nI_clamp (by omega)]
        refine call0 (c_X9_add (c := c' + s) (by omega)) rfl rfl ?_
        rintro r h' ⟨rfl, rfl⟩
        have e8 : stB (upd fm (c' + s) (fm (c + s))) (upd fg (c' + s) (fg (c + s))) (cpF g' c' (c' - c) (s + 1)) (c' + s + 1) := by
          have z := stB_cp i8 (j := c + s) (by omega)
          show stB _ _ (updN (cpF g' c' (c' - c) s) (c' + s) (cpF g' c' (c' - c) s (c' + s - (c' - c)))) _
          rw [show c' + s - (c' - c) = c + s by omega]
          exact z
        exact ⟨(c' - c) * (tm - 1) - (s + 1), by omega, s + 1, p', c', g', _, _, rfl, by omega, i2, i3, i4, i5, i6, i7, e8, by rw [← Nat.add_assoc, ← nI_1 (c + s)] <;> rfl, rfl, rfl⟩
  · refine m_X9_readRound d (by omega) (fun _ _ _ _ => False) (Nat.le_of_ble_eq_true rfl) ?_ (fun _ _ _ _ z => z.elim)
    refine And.intro (fun z => absurd ((nI_ltI (b := 2) (by omega) (by omega)).mp z) h2) (fun _ => ?_)
    refine call0 (c_X6_at_S) rfl rfl ?_
    rintro r h' ⟨rfl, rfl⟩
    refine call0 (c_X6_fails_S) rfl rfl ?_
    rintro r h' ⟨rfl, rfl⟩
    exact And.intro (Or.inl rfl) (Or.inl ⟨rfl, 5, q, q, c, _, SR_mint, SR_grains, by rw [eq]; exact st_deep (by rw [← eq]; exact ho) (by omega), by omega, by omega, by omega, rfl⟩)
theorem ROn_of {l : Launch} {d : Nat} {b : Nat → Nat} {n op : Nat} (hd : 1 ≤ d) (hS : op < 2 → RSt l d b n (op + 1)) (ho2 : op ≤ 2) (hn : n ≤ 60) : ROn l (d + 1 + 1) b n op := by
  intro SR_fault SR_mint SR_grains Txt g stk p c hop hp hc hb hg
  have hbb : ∀ i, i < n → b i ≤ 255 := fun i hi => (hb i hi).1
  obtain ⟨t0, tq, t1, t9⟩ := tm_le (b := b) hp
  refine m_X9_readOne (d + 1) (by omega) (Nat.le_of_ble_eq_true rfl) ?_
  refine call0 (c_X6_at_S) rfl rfl ?_
  rintro r h' ⟨rfl, rfl⟩
  refine call0 (c_X6_ahead_S) rfl rfl ?_
  rintro r h' ⟨rfl, rfl⟩
  refine call0 (c_within) rfl rfl ?_
  rintro r h' ⟨rfl, rfl⟩
  -- from where the times are read
  have e33 : ∀ {tm : Int32} {q : Nat}, tm = nI (tmN b n p) → q = tmQ b n p → b_X9_readOne_33 l (d + 1) (fun r h' => (r = some (.inl 0) ∧ ∃ (k a p' c' : Nat) (ah : Int32) (fm fg : Nat → Int32), goF b n true p c g stk k a ∧ (1 ≤ k ∧ k ≤ 9) ∧ a ≤ n ∧ c' ≤ 48 ∧ h' = [.inr (8, [.inr (some (.inl 3)), .inl ((nI n)), .inl ((nI p')), .inl ah, .inl ((ftV k a)), .inr (some (.inl 1)), .inr (some (.inl 2)), .inl ((nI c'))]), .inl (0, 48, fm), .inl (0, 48, fg), .inl (0, 260, Txt)]) ∨ (r = some (.inl 1) ∧ ∃ (p' c' : Nat) (g' : Nat → Nat) (fm fg : Nat → Int32), goT b n true p c g stk false p' c' g' stk ∧ p < p' ∧ p' ≤ n ∧ c < c' ∧ c' ≤ 48 ∧ stB fm fg g' c' ∧ h' = [.inr (8, [.inr (some (.inl 3)), .inl ((nI n)), .inl ((nI p')), .inl ((aV b n p')), .inl SR_fault, .inr (some (.inl 1)), .inr (some (.inl 2)), .inl ((nI c'))]), .inl (0, 48, fm), .inl (0, 48, fg), .inl (0, 260, Txt)])) [some (.inr (some (.inl 0))), some (.inl (nI op)), some (.inl (nI p)), some (.inl tm)] [] [.inr (8, [.inr (some (.inl 3)), .inl ((nI n)), .inl ((nI q)), .inl ((aV b n q)), .inl SR_fault, .inr (some (.inl 1)), .inr (some (.inl 2)), .inl ((nI c))]), .inl (0, 48, SR_mint), .inl (0, 48, SR_grains), .inl (0, 260, Txt)] := fun {tm q} etm eqq => by
    subst etm eqq
    refine call0 (c_X6_ahead_S) rfl rfl ?_
    rintro r h' ⟨rfl, rfl⟩
    refine And.intro (fun v => ?_) (fun v => ?_)
    · have v := (aV_eq (k := 40) hbb (by omega)).mp v
      refine call0 (c_X9_readRound (b := b) (n := n) (op := op) (stk := stk) (g := g) (c := c) (p := p) (q := tmQ b n p) (tm := tmN b n p) hS hop ho2 hn hp hc rfl rfl v hb hg) rfl rfl ?_
      rintro r h' (⟨rfl, k, a, p', c', ah, fm, fg, f1, f2, f3, fc, rfl⟩ | ⟨rfl, p', c', g', fm, fg, f1, f2, f3, f4, f5, f6, rfl⟩)
      · exact And.intro (Or.inl rfl) (Or.inl ⟨rfl, k, a, p', c', ah, fm, fg, f1, f2, f3, fc, rfl⟩)
      · exact And.intro (Or.inr rfl) (Or.inr ⟨rfl, p', c', g', fm, fg, f1, f2, f3, f4, f5, f6, rfl⟩)
    · have v : ¬ hr b n (tmQ b n p) = 40 := fun z => v ((aV_eq (k := 40) hbb (by omega)).mpr z)
      refine call0 (c_X9_readStamp (b := b) (n := n) (stk := stk) (g := g) (c := c) (p := p) (q := tmQ b n p) (tm := tmN b n p) hn tq hp hc rfl rfl v hb hg) rfl rfl ?_
      rintro r h' (⟨rfl, k, a, p', ah, f1, f2, f3, rfl⟩ | ⟨rfl, p', c', g', fm, fg, f1, f2, f3, f4, f5, f6, rfl⟩)
      · exact And.intro (Or.inl rfl) (Or.inl ⟨rfl, k, a, p', c, ah, SR_mint, SR_grains, f1, f2, f3, hc, rfl⟩)
      · exact And.intro (Or.inr rfl) (Or.inr ⟨rfl, p', c', g', fm, fg, f1, by omega, f3, f4, f5, f6, rfl⟩)
  refine br_b (fun w => ?_) (fun w => ?_)
  · have w : ¬ (50 ≤ hr b n p ∧ hr b n p ≤ 57) := fun z => w ((aV_in (lo := 50) (hi := 57) hbb (by omega) (by omega)).mpr z)
    exact e33 (by unfold tmN; rw [if_neg w]; rfl) (by unfold tmQ; rw [if_neg w])
  · have w := (aV_in (lo := 50) (hi := 57) hbb (by omega) (by omega)).mp w
    have hpn := hr_lt2 (b := b) (n := n) (p := p) (by omega)
    refine call0 (c_X6_ahead_S) rfl rfl ?_
    rintro r h' ⟨rfl, rfl⟩
    refine call0 (c_X6_skip_S (n := n) (q := p + 1) (b := b) (by omega) (by omega) (nI_1 p) hb) rfl rfl ?_
    rintro r h' ⟨rfl, rfl⟩
    exact e33 (by unfold tmN; rw [if_pos w]; exact fsub_k (k := 48) (by omega) (by omega)) (by unfold tmQ; rw [if_pos w])
theorem RSt_of {l : Launch} {d : Nat} {b : Nat → Nat} {n op : Nat} (hO : ROn l d b n op) (ho2 : op ≤ 2) (hn : n ≤ 60) : RSt l (d + 1) b n op := by
  intro SR_fault SR_mint SR_grains Txt g stk p c hop hp hc hb hg
  have hbb : ∀ i, i < n → b i ≤ 255 := fun i hi => (hb i hi).1
  refine m_X9_readStamps d (by omega) (fun μ L st h => ∃ (i p1 c1 : Nat) (g1 : Nat → Nat) (fm fg : Nat → Int32), μ = 60 - p1 ∧ i ≤ p1 ∧ p ≤ p1 ∧ p1 ≤ n ∧ c ≤ c1 ∧ (i = 0 ∨ (p < p1 ∧ c < c1)) ∧ c1 ≤ 48 ∧ goT b n true p c g stk true p1 c1 g1 stk ∧ stB fm fg g1 c1 ∧ L = [some (.inr (some (.inl 0))), some (.inl (nI op)), some (.inl (nI i))] ∧ st = [] ∧ h = [.inr (8, [.inr (some (.inl 3)), .inl ((nI n)), .inl ((nI p1)), .inl ((aV b n p1)), .inl SR_fault, .inr (some (.inl 1)), .inr (some (.inl 2)), .inl ((nI c1))]), .inl (0, 48, fm), .inl (0, 48, fg), .inl (0, 260, Txt)]) (Nat.le_of_ble_eq_true rfl) ?_ ?_
  · exact ⟨_, 0, p, c, g, SR_mint, SR_grains, rfl, by omega, by omega, hp, by omega, Or.inl rfl, hc, goT_0, hg, rfl, rfl, rfl⟩
  · rintro μ L st h ⟨i, p1, c1, g1, fm, fg, hμ, i1, i2, i3, i4, i5, i6, i7, i8, rfl, rfl, rfl⟩
    refine And.intro (fun v => absurd ((nI_ltI (a := 60) (by omega) (by omega)).mp v) (by omega)) (fun _ => ?_)
    refine call0 (hO (g := g1) (stk := stk) (p := p1) (c := c1) (SR_fault := SR_fault) (SR_mint := fm) (SR_grains := fg) (Txt := Txt) hop i3 i6 hb i8) rfl rfl ?_
    rintro r h' (⟨rfl, k, a, p', c', ah, fm', fg', f1, f2, f3, fc, rfl⟩ | ⟨rfl, p', c', g', fm', fg', f1, f2, f3, f4, f5, f6, rfl⟩)
    · refine And.intro (fun _ => ?_) (fun z => absurd rfl z)
      exact And.intro (Or.inl rfl) (Or.inl ⟨rfl, k, a, p', c', ah, fm', fg', goT_F i7 f1, f2, f3, fc, rfl⟩)
    · refine And.intro (fun z => absurd z (by show ¬ ((_ : Int32) = _); decide)) (fun _ => ?_)
      have go : ∀ {e : goT b n false p' c' g' stk true p' c' g' stk}, ∃ μ', μ' < μ ∧ ∃ (j p1 c1 : Nat) (g1 : Nat → Nat) (fm fg : Nat → Int32), μ' = 60 - p1 ∧ j ≤ p1 ∧ p ≤ p1 ∧ p1 ≤ n ∧ c ≤ c1 ∧ (j = 0 ∨ (p < p1 ∧ c < c1)) ∧ c1 ≤ 48 ∧ goT b n true p c g stk true p1 c1 g1 stk ∧ stB fm fg g1 c1 ∧ ([some (.inr (some (.inl 0))), some (.inl (nI op)), some (.inl (f_add (nI i) 1))] : PL) = [some (.inr (some (.inl 0))), some (.inl (nI op)), some (.inl (nI j))] ∧ ([] : List PV) = [] ∧ ([.inr (8, [.inr (some (.inl 3)), .inl ((nI n)), .inl ((nI p')), .inl ((aV b n p')), .inl SR_fault, .inr (some (.inl 1)), .inr (some (.inl 2)), .inl ((nI c'))]), .inl (0, 48, fm'), .inl (0, 48, fg'), .inl (0, 260, Txt)] : PH) = [.inr (8, [.inr (some (.inl 3)), .inl ((nI n)), .inl ((nI p1)), .inl ((aV b n p1)), .inl SR_fault, .inr (some (.inl 1)), .inr (some (.inl 2)), .inl ((nI c1))]), .inl (0, 48, fm), .inl (0, 48, fg), .inl (0, 260, Txt)] := fun {e} => ⟨60 - p', by omega, i + 1, p', c', g', fm', fg', rfl, by omega, by omega, f3, by omega, Or.inr ⟨by omega, by omega⟩, f5, goT_go i7 (goT_go f1 e), f6, by rw [← nI_1 i] <;> rfl, rfl, rfl⟩
      have ok : ∀ {z : stk = [] ∧ n ≤ p' ∨ ¬ stk = [] ∧ hr b n p' = 41}, (some (Sum.inl 1 : PV) = some (.inl 0) ∧ ∃ (k a p2 c2 : Nat) (ah : Int32) (fm fg : Nat → Int32), goF b n true p c g stk k a ∧ (1 ≤ k ∧ k ≤ 9) ∧ a ≤ n ∧ c2 ≤ 48 ∧ ([.inr (8, [.inr (some (.inl 3)), .inl ((nI n)), .inl ((nI p')), .inl ((aV b n p')), .inl SR_fault, .inr (some (.inl 1)), .inr (some (.inl 2)), .inl ((nI c'))]), .inl (0, 48, fm'), .inl (0, 48, fg'), .inl (0, 260, Txt)] : PH) = [.inr (8, [.inr (some (.inl 3)), .inl ((nI n)), .inl ((nI p2)), .inl ah, .inl ((ftV k a)), .inr (some (.inl 1)), .inr (some (.inl 2)), .inl ((nI c2))]), .inl (0, 48, fm), .inl (0, 48, fg), .inl (0, 260, Txt)]) ∨ (some (Sum.inl 1 : PV) = some (.inl 1) ∧ ∃ (p2 c2 : Nat) (g2 : Nat → Nat) (fm fg : Nat → Int32), goT b n true p c g stk false p2 c2 g2 stk ∧ p < p2 ∧ p2 ≤ n ∧ c < c2 ∧ c2 ≤ 48 ∧ stB fm fg g2 c2 ∧ (stk = [] ∧ n ≤ p2 ∨ ¬ stk = [] ∧ hr b n p2 = 41) ∧ ([.inr (8, [.inr (some (.inl 3)), .inl ((nI n)), .inl ((nI p')), .inl ((aV b n p')), .inl SR_fault, .inr (some (.inl 1)), .inr (some (.inl 2)), .inl ((nI c'))]), .inl (0, 48, fm'), .inl (0, 48, fg'), .inl (0, 260, Txt)] : PH) = [.inr (8, [.inr (some (.inl 3)), .inl ((nI n)), .inl ((nI p2)), .inl ((aV b n p2)), .inl SR_fault, .inr (some (.inl 1)), .inr (some (.inl 2)), .inl ((nI c2))]), .inl (0, 48, fm), .inl (0, 48, fg), .inl (0, 260, Txt)]) := fun {z} => Or.inr ⟨rfl, p', c', g', fm', fg', goT_go i7 f1, by omega, f3, by omega, f5, f6, z, rfl⟩
      rcases (by omega : op = 0 ∨ 1 ≤ op) with rfl | h0
      · have es : stk = [] := List.length_eq_zero_iff.mp hop
        refine And.intro (fun _ => ?_) (fun z => absurd rfl z)
        refine call0 (c_X6_ended_S (n := n) (p := p') (by omega) (by omega)) rfl rfl ?_
        rintro r h' ⟨rfl, rfl⟩
        refine br_b (fun w => ?_) (fun w => ?_)
        · subst es
          exact go (e := st_next0 w)
        · exact And.intro (Or.inr rfl) (ok (z := Or.inl ⟨es, w⟩))
      · have es : ¬ stk = [] := fun z => by subst z; simp at hop; omega
        refine And.intro (fun z => absurd ((nI_eq (b := 0) (by omega) (by omega)).mp z) (by omega)) (fun _ => ?_)
        refine call0 (c_X6_ahead_S) rfl rfl ?_
        rintro r h' ⟨rfl, rfl⟩
        refine And.intro (fun w => ?_) (fun w => ?_)
        · have w := (aV_eq (k := 41) hbb (by omega)).mp w
          exact And.intro (Or.inr rfl) (ok (z := Or.inr ⟨es, w⟩))
        · have w : ¬ hr b n p' = 41 := fun z => w ((aV_eq (k := 41) hbb (by omega)).mpr z)
          cases stk with
          | nil => exact absurd rfl es
          | cons q rest =>
            obtain ⟨fr, a, tm⟩ := q
            exact go (e := st_next w)
theorem RSt_0 {l : Launch} {d : Nat} {b : Nat → Nat} {n : Nat} (hd : 10 ≤ d) (hn : n ≤ 60) : RSt l d b n 0 := by
  obtain ⟨e, rfl⟩ : ∃ e, d = e + 1 + (1 + 1 + 1) + (1 + 1 + 1) + (1 + 1 + 1) := ⟨d - 10, by omega⟩
  have r2 : RSt l (e + 1 + (1 + 1 + 1)) b n 2 := RSt_of (ROn_of (by omega) (fun z => by omega) (by omega) hn) (by omega) hn
  have r1 : RSt l (e + 1 + (1 + 1 + 1) + (1 + 1 + 1)) b n 1 := RSt_of (ROn_of (by omega) (fun _ => r2) (by omega) hn) (by omega) hn
  have r0 : RSt l (e + 1 + (1 + 1 + 1) + (1 + 1 + 1) + (1 + 1 + 1)) b n 0 := RSt_of (ROn_of (by omega) (fun _ => r1) (by omega) hn) (by omega) hn
  exact @r0
set_option maxRecDepth 100000 in
theorem c_X9_read {l : Launch} {SR_end SR_at SR_ahead SR_fault SR_size : Int32} {SR_mint SR_grains Txt : Nat → Int32}  {b : Nat → Nat} {n : Nat} (hn1 : 1 ≤ n) (hn : n ≤ 60) (hb : txB Txt b n) : MetP l 101 yX9_read cX9_read 2 (some .int) 0 0 [.inr (some (.inl 0)), .inl (nI n)] [.inr (8, [.inr (some (.inl 3)), .inl SR_end, .inl SR_at, .inl SR_ahead, .inl SR_fault, .inr (some (.inl 1)), .inr (some (.inl 2)), .inl SR_size]), .inl (0, 48, SR_mint), .inl (0, 48, SR_grains), .inl (0, 260, Txt)] (fun r h' => ∃ (y : Int32) (at_ ah fa : Int32) (c : Nat) (fm fg : Nat → Int32), r = some (.inl y) ∧ c ≤ 48 ∧ ((∃ k a, (1 ≤ k ∧ k ≤ 9) ∧ a ≤ n ∧ shE b n (.inl (k, a)) ∧ y = ftV k a) ∨ (∃ g, shE b n (.inr (c, g)) ∧ y = nI c ∧ stB fm fg g c)) ∧ h' = [.inr (8, [.inr (some (.inl 3)), .inl ((nI n)), .inl at_, .inl ah, .inl fa, .inr (some (.inl 1)), .inr (some (.inl 2)), .inl ((nI c))]), .inl (0, 48, fm), .inl (0, 48, fg), .inl (0, 260, Txt)]) := by
  refine m_X9_read (Nat.le_of_ble_eq_true rfl) ?_
  refine call0 (c_X6_begin_S (n := n) (b := b) (by omega) hb) rfl rfl ?_
  rintro r h' ⟨rfl, rfl⟩
  refine call0 (RSt_0 (l := l) (d := 100) (b := b) (n := n) (by omega) hn (g := fun _ => 0) (stk := []) (p := 0) (c := 0) (SR_fault := 0) (SR_mint := SR_mint) (SR_grains := SR_grains) (Txt := Txt) rfl (by omega) (by omega) hb (fun i hi => absurd hi (Nat.not_lt_zero _))) rfl rfl ?_
  rintro r h' (⟨rfl, k, a, p', c', ah, fm, fg, f1, f2, f3, fc, rfl⟩ | ⟨rfl, p', c', g', fm, fg, f1, f2, f3, f4, f5, f6, f7, rfl⟩)
  · refine And.intro (fun _ => ?_) (fun z => absurd rfl z)
    refine call0 (c_X6_fault_S) rfl rfl ?_
    rintro r h' ⟨rfl, rfl⟩
    exact ⟨_, _, _, _, c', fm, fg, rfl, by omega, Or.inl ⟨k, a, f2, f3, f1, rfl⟩, rfl⟩
  · refine And.intro (fun z => absurd z (by show ¬ ((_ : Int32) = _); decide)) (fun _ => ?_)
    rcases f7 with ⟨_, f7⟩ | ⟨z, _⟩
    · exact ⟨_, _, _, _, c', fm, fg, rfl, f5, Or.inr ⟨g', shE_T f1 f7, rfl, f6⟩, rfl⟩
    · exact absurd rfl z

