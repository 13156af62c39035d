/-! ===== which of them are false: both sides ===== -/
set_option maxRecDepth 100000 in
theorem c_X1_fewestFalse {l : Launch} {Crew_acrossSum Crew_alongSum Rep_toldMints Rep_walls : Int32} {Crew_members Rep_mintX Rep_mintY Rep_wall Rep_mintOf Rep_grainsOf : Nat → Int32}  {s tw tx ty : Nat → Nat} {n c p : Nat} {a b : Int32} (hn1 : 1 ≤ n) (hn : n ≤ 9) (hc : c ≤ 48) (hp : p ≤ 383) (ha : a = -1 ∨ a = 0 ∨ a = 1) (hb : b = -1 ∨ b = 0 ∨ b = 1) (hM : crC c Crew_members Rep_mintOf Rep_grainsOf Rep_mintX Rep_mintY s tw tx ty n) : MetP l 5 yX1_fewestFalse cX1_fewestFalse 6 (some .int) 0 0 [.inr (some (.inl 0)), .inl (nI p), .inl (wbV a b)] [.inr (1, [.inr (some (.inl 2)), .inr (some (.inl 1)), .inl ((nI n)), .inl Crew_acrossSum, .inl Crew_alongSum]), .inl (0, 9, Crew_members), .inr (6, [.inr (some (.inl 3)), .inr (some (.inl 4)), .inr (some (.inl 5)), .inr (some (.inl 6)), .inr (some (.inl 7)), .inl Rep_toldMints, .inl Rep_walls, .inl ((nI c))]), .inl (0, 8, Rep_mintX), .inl (0, 8, Rep_mintY), .inl (2, 384, Rep_wall), .inl (0, 48, Rep_mintOf), .inl (0, 48, Rep_grainsOf)] (fun r h' => ∃ u v : Int32, r = some (.inl (fwV (bsG (flB tw tx ty n p a b) (2 ^ n)))) ∧ h' = [.inr (1, [.inr (some (.inl 2)), .inr (some (.inl 1)), .inl ((nI n)), .inl u, .inl v]), .inl (0, 9, Crew_members), .inr (6, [.inr (some (.inl 3)), .inr (some (.inl 4)), .inr (some (.inl 5)), .inr (some (.inl 6)), .inr (some (.inl 7)), .inl Rep_toldMints, .inl Rep_walls, .inl ((nI c))]), .inl (0, 8, Rep_mintX), .inl (0, 8, Rep_mintY), .inl (2, 384, Rep_wall), .inl (0, 48, Rep_mintOf), .inl (0, 48, Rep_grainsOf)]) := by
  have pw := pw_le n (by omega)
  have hw : ∀ i, i < n → tw i ≤ 2 := fun i hi => by
    obtain ⟨_, _, m, _, _, _, _, _, _, _, z⟩ := hM i hi
    exact z
  have e1 : f_sub (f_shl 1 (nI n)) 1 = nI (2 ^ n - 1) := by
    rw [pw_n n (by omega)]
    exact fsub_n (b := 1) (by omega)
  refine m_X1_fewestFalse (fun μ L st h => ∃ (j : Nat) (u v : Int32), μ = 2 ^ n - j ∧ j ≤ 2 ^ n ∧ L = [some (.inr (some (.inl 0))), some (.inl (nI p)), some (.inl (wbV a b)), some (.inl (nI (2 ^ n - 1))), some (.inl (fwV (bsG (flB tw tx ty n p a b) j))), some (.inl (nI j))] ∧ st = [] ∧ h = [.inr (1, [.inr (some (.inl 2)), .inr (some (.inl 1)), .inl ((nI n)), .inl u, .inl v]), .inl (0, 9, Crew_members), .inr (6, [.inr (some (.inl 3)), .inr (some (.inl 4)), .inr (some (.inl 5)), .inr (some (.inl 6)), .inr (some (.inl 7)), .inl Rep_toldMints, .inl Rep_walls, .inl ((nI c))]), .inl (0, 8, Rep_mintX), .inl (0, 8, Rep_mintY), .inl (2, 384, Rep_wall), .inl (0, 48, Rep_mintOf), .inl (0, 48, Rep_grainsOf)]) (Nat.le_of_ble_eq_true rfl) ?_ ?_
  · exact ⟨_, 0, _, _, rfl, by omega, by rw [← e1] <;> rfl, rfl, rfl⟩
  · rintro μ L st h ⟨j, u, v, hμ, h1, rfl, rfl, rfl⟩
    refine And.intro (fun (q1 : nI (2 ^ n - 1) < nI j) => ?_) (fun (q1 : ¬ nI (2 ^ n - 1) < nI j) => ?_)
    · have q1 := (nI_ltI (by omega) (by omega)).mp q1
      obtain rfl : j = 2 ^ n := by omega
      exact ⟨u, v, rfl, rfl⟩
    · have q1 : j < 2 ^ n := by
        rcases Nat.lt_or_ge (2 ^ n - 1) j with z | z
        · exact absurd ((nI_ltI (by omega) (by omega)).mpr z) q1
        · omega
      refine call0 (c_X1_wayFrom (B := fun i => !j.testBit i) (s := s) (tw := tw) (tx := tx) (ty := ty) (n := n) (c := c) (p := p) hn hc hp (fun i hi => an_b (by omega) hi) hM) rfl rfl ?_
      rintro r h' ⟨u', v', rfl, rfl⟩
      have hf := fl_wp (tw := tw) (tx := tx) (ty := ty) (n := n) (p := p) (S := j) (a := a) (b := b) hn hw ha hb
      refine And.intro (fun (w : wpV (plB (tA tw tx p) (fun i => !j.testBit i) n) (plB (tL tw ty p) (fun i => !j.testBit i) n) = wbV a b) => ?_) (fun (w : ¬ wpV (plB (tA tw tx p) (fun i => !j.testBit i) n) (plB (tL tw ty p) (fun i => !j.testBit i) n) = wbV a b) => ?_)
      · have ew : bsG (flB tw tx ty n p a b) (j + 1) = some (fewS (bsG (flB tw tx ty n p a b) j) j) := if_pos (hf.mp w)
        refine call0 (c_X1_fewer (b := bsG (flB tw tx ty n p a b) j) (j := j) (by omega) (fun x hx => by have := bsG_lt hx; omega)) rfl rfl ?_
        rintro r h' ⟨rfl, rfl⟩
        exact ⟨2 ^ n - (j + 1), by omega, j + 1, u', v', rfl, by omega, by rw [ew, ← nI_1 j] <;> rfl, rfl, rfl⟩
      · have ew : bsG (flB tw tx ty n p a b) (j + 1) = bsG (flB tw tx ty n p a b) j := if_neg (fun z => w (hf.mpr z))
        exact ⟨2 ^ n - (j + 1), by omega, j + 1, u', v', rfl, by omega, by rw [ew, ← nI_1 j] <;> rfl, rfl, rfl⟩
def szV (b : Option Nat) (w : Nat) : Int32 := match b with
  | none => -2
  | some x => if w = 0 then nI (pcN x 12) else nI x
theorem e_X11_sizeOrBits {l : Launch} {b : Option Nat} {w : Nat} (hb : ∀ x, b = some x → x < 4096) (hw : w ≤ 1) : MetP l 1 yX11_sizeOrBits cX11_sizeOrBits 2 (some .int) 0 0 [.inl (fwV b), .inl (nI w)] [] (fun r h' => r = some (.inl (szV b w)) ∧ h' = []) := by
  cases b with
  | none =>
    refine m_X11_sizeOrBits (Nat.le_of_ble_eq_true rfl) ?_
    exact And.intro (fun _ => ⟨rfl, rfl⟩) (fun z => absurd (by show ((_ : Int32) < _); decide) z)
  | some x => exact c_X11_sizeOrBits (hb x rfl) hw
def flV (c T : Nat) (fm fw fx fy o : Nat → Nat) (n p : Nat) (a b : Int32) (w : Nat) : Int32 := if alW c T fm o n = true then szV (bsG (flB (fun i => fw (o i)) (fun i => fx (fm (o i))) (fun i => fy (fm (o i))) n p a b) (2 ^ n)) w else -3
theorem flV_t {c T : Nat} {fm fw fx fy o : Nat → Nat} {n p w : Nat} {a b : Int32} (h : alW c T fm o n = true) : flV c T fm fw fx fy o n p a b w = szV (bsG (flB (fun i => fw (o i)) (fun i => fx (fm (o i))) (fun i => fy (fm (o i))) n p a b) (2 ^ n)) w := if_pos h
theorem flV_f {c T : Nat} {fm fw fx fy o : Nat → Nat} {n p w : Nat} {a b : Int32} (h : alW c T fm o n = false) : flV c T fm fw fx fy o n p a b w = -3 := if_neg (by rw [h]; decide)
theorem fl_00 {tw tx ty : Nat → Nat} {n p j : Nat} {a b : Int32} (ha : ¬ a = 0) (hb : ¬ b = 0) : bsG (flB tw tx ty n p a b) j = none := bs_no (fun S _ => by
  unfold flB
  rw [decide_eq_false_iff_not]
  intro z
  rcases fx_0 (a := plB (tA tw tx p) (fun i => !S.testBit i) n) (b := plB (tL tw ty p) (fun i => !S.testBit i) n) with e | e
  · rw [z] at e
    exact ha e
  · rw [z] at e
    exact hb e)
theorem b3 {a : Int32} (h : a = -1 ∨ a = 0 ∨ a = 1) : (-1 : Int32) ≤ a ∧ a ≤ 1 := by rcases h with rfl | rfl | rfl <;> decide
set_option maxRecDepth 100000 in
theorem c_X11_falseOnes {l : Launch} {HS_now HS_kept HS_trial HS_clerk HS_riddles HS_sheetReader HS_postReader HS_lawReader HS_seen HS_rules HS_spareRules : List (Option Nat)} {HS_wasKept Crew_size Crew_acrossSum Crew_alongSum Rep_walls : Int32} {Tape_bytes Crew_members Rep_mintX Rep_mintY Rep_wall Rep_mintOf Rep_grainsOf : Nat → Int32}  {o fm fw fx fy : Nat → Nat} {n p w t c T : Nat} {a b : Int32} (hn1 : 1 ≤ n) (hn : n ≤ 9) (hp : p ≤ 383) (ha : a = -1 ∨ a = 0 ∨ a = 1) (hb' : b = -1 ∨ b = 0 ∨ b = 1) (hw : w ≤ 1) (ht : t ≤ 260) (hnt : n ≤ t) (hc : c ≤ 48) (hm : ∀ s, s < c → fm s < 8 ∧ fw s ≤ 2 ∧ Rep_mintOf s = nI (fm s) ∧ Rep_grainsOf s = nI (fw s)) (hx : ∀ m, m < 8 → T.testBit m = true → fx m ≤ 23 ∧ fy m ≤ 15 ∧ Rep_mintX m = nI (fx m) ∧ Rep_mintY m = nI (fy m)) (hb : ∀ i, i < n → o i ≤ 255 ∧ Tape_bytes i = nI (o i)) : MetP l 6 yX11_falseOnes cX11_falseOnes 6 (some .int) 0 0 [.inr (some (.inl 0)), .inl (nI n), .inl (nI p), .inl a, .inl b, .inl (nI w)] [.inr (10, [.inr (some (.inl 1)), .inr (some (.inl 5)), .inr (some (.inr HS_now)), .inr (some (.inr HS_kept)), .inr (some (.inr HS_trial)), .inr (some (.inr HS_clerk)), .inr (some (.inl 3)), .inr (some (.inr HS_riddles)), .inr (some (.inr HS_sheetReader)), .inr (some (.inr HS_postReader)), .inr (some (.inr HS_lawReader)), .inr (some (.inr HS_seen)), .inr (some (.inr HS_rules)), .inr (some (.inr HS_spareRules)), .inl HS_wasKept]), .inr (9, [.inr (some (.inl 2)), .inl ((nI t))]), .inl (0, 260, Tape_bytes), .inr (1, [.inr (some (.inl 5)), .inr (some (.inl 4)), .inl Crew_size, .inl Crew_acrossSum, .inl Crew_alongSum]), .inl (0, 9, Crew_members), .inr (6, [.inr (some (.inl 6)), .inr (some (.inl 7)), .inr (some (.inl 8)), .inr (some (.inl 9)), .inr (some (.inl 10)), .inl ((nI T)), .inl Rep_walls, .inl ((nI c))]), .inl (0, 8, Rep_mintX), .inl (0, 8, Rep_mintY), .inl (2, 384, Rep_wall), .inl (0, 48, Rep_mintOf), .inl (0, 48, Rep_grainsOf)] (fun r h' => ∃ (k : Nat) (mb : Nat → Int32) (u v : Int32), k ≤ 9 ∧ r = some (.inl (flV c T fm fw fx fy o n p a b w)) ∧ h' = [.inr (10, [.inr (some (.inl 1)), .inr (some (.inl 5)), .inr (some (.inr HS_now)), .inr (some (.inr HS_kept)), .inr (some (.inr HS_trial)), .inr (some (.inr HS_clerk)), .inr (some (.inl 3)), .inr (some (.inr HS_riddles)), .inr (some (.inr HS_sheetReader)), .inr (some (.inr HS_postReader)), .inr (some (.inr HS_lawReader)), .inr (some (.inr HS_seen)), .inr (some (.inr HS_rules)), .inr (some (.inr HS_spareRules)), .inl HS_wasKept]), .inr (9, [.inr (some (.inl 2)), .inl 0]), .inl (0, 260, Tape_bytes), .inr (1, [.inr (some (.inl 5)), .inr (some (.inl 4)), .inl ((nI k)), .inl u, .inl v]), .inl (0, 9, mb), .inr (6, [.inr (some (.inl 6)), .inr (some (.inl 7)), .inr (some (.inl 8)), .inr (some (.inl 9)), .inr (some (.inl 10)), .inl ((nI T)), .inl Rep_walls, .inl ((nI c))]), .inl (0, 8, Rep_mintX), .inl (0, 8, Rep_mintY), .inl (2, 384, Rep_wall), .inl (0, 48, Rep_mintOf), .inl (0, 48, Rep_grainsOf)]) := by
  have pw := pw_le n (by omega)
  refine m_X11_falseOnes (Nat.le_of_ble_eq_true rfl) ?_
  refine call0 (c_isPlace) rfl rfl ?_
  rintro r h' ⟨rfl, rfl⟩
  refine br_b (fun z => absurd ((nI_bt (a := 0) (b := 383) (by omega) (by omega) (by omega)).mpr ⟨by omega, hp⟩) z) (fun _ => ?_)
  refine call0 (c_within) rfl rfl ?_
  rintro r h' ⟨rfl, rfl⟩
  refine br_b (fun z => absurd (b3 ha) z) (fun _ => ?_)
  refine call0 (c_within) rfl rfl ?_
  rintro r h' ⟨rfl, rfl⟩
  refine br_b (fun z => absurd (b3 hb') z) (fun _ => ?_)
  refine call0 (c_within) rfl rfl ?_
  rintro r h' ⟨rfl, rfl⟩
  refine br_b (fun z => absurd ((nI_bt (a := 0) (b := 1) (by omega) (by omega) (by omega)).mpr ⟨by omega, hw⟩) z) (fun _ => ?_)
  refine call0 (c_canGive) rfl rfl ?_
  rintro r h' ⟨rfl, rfl⟩
  refine br_b (fun z => absurd ⟨(nI_bt (a := 1) (b := 9) (by omega) (by omega) (by omega)).mpr ⟨hn1, hn⟩, (nI_leI (by omega) (by omega)).mpr hnt⟩ z) (fun _ => ?_)
  refine call0 (c_X11_gatherCrew (o := o) (fm := fm) (n := n) (t := t) (c := c) (T := T) hn ht hnt hc (fun s hs => ⟨(hm s hs).1, (hm s hs).2.2.1⟩) hb) rfl rfl ?_
  rintro r h' ⟨k, mb, k9, hq, rfl⟩
  rcases hq with ⟨rfl, hf⟩ | ⟨rfl, hy, rfl, hmb⟩
  · refine And.intro (fun _ => ?_) (fun z => absurd rfl z)
    exact ⟨k, mb, _, _, k9, by rw [flV_f hf], rfl⟩
  · have hM := crC_of hy hmb hm hx
    have go : ∀ {Crew_acrossSum Crew_alongSum : Int32}, b_X11_falseOnes_75 l (fun r h' => ∃ (k2 : Nat) (mb2 : Nat → Int32) (u v : Int32), k2 ≤ 9 ∧ r = some (.inl (flV c T fm fw fx fy o k p a b w)) ∧ h' = [.inr (10, [.inr (some (.inl 1)), .inr (some (.inl 5)), .inr (some (.inr HS_now)), .inr (some (.inr HS_kept)), .inr (some (.inr HS_trial)), .inr (some (.inr HS_clerk)), .inr (some (.inl 3)), .inr (some (.inr HS_riddles)), .inr (some (.inr HS_sheetReader)), .inr (some (.inr HS_postReader)), .inr (some (.inr HS_lawReader)), .inr (some (.inr HS_seen)), .inr (some (.inr HS_rules)), .inr (some (.inr HS_spareRules)), .inl HS_wasKept]), .inr (9, [.inr (some (.inl 2)), .inl 0]), .inl (0, 260, Tape_bytes), .inr (1, [.inr (some (.inl 5)), .inr (some (.inl 4)), .inl ((nI k2)), .inl u, .inl v]), .inl (0, 9, mb2), .inr (6, [.inr (some (.inl 6)), .inr (some (.inl 7)), .inr (some (.inl 8)), .inr (some (.inl 9)), .inr (some (.inl 10)), .inl ((nI T)), .inl Rep_walls, .inl ((nI c))]), .inl (0, 8, Rep_mintX), .inl (0, 8, Rep_mintY), .inl (2, 384, Rep_wall), .inl (0, 48, Rep_mintOf), .inl (0, 48, Rep_grainsOf)]) [some (.inr (some (.inl 0))), some (.inl (nI k)), some (.inl (nI p)), some (.inl a), some (.inl b), some (.inl (nI w))] [] [.inr (10, [.inr (some (.inl 1)), .inr (some (.inl 5)), .inr (some (.inr HS_now)), .inr (some (.inr HS_kept)), .inr (some (.inr HS_trial)), .inr (some (.inr HS_clerk)), .inr (some (.inl 3)), .inr (some (.inr HS_riddles)), .inr (some (.inr HS_sheetReader)), .inr (some (.inr HS_postReader)), .inr (some (.inr HS_lawReader)), .inr (some (.inr HS_seen)), .inr (some (.inr HS_rules)), .inr (some (.inr HS_spareRules)), .inl HS_wasKept]), .inr (9, [.inr (some (.inl 2)), .inl 0]), .inl (0, 260, Tape_bytes), .inr (1, [.inr (some (.inl 5)), .inr (some (.inl 4)), .inl ((nI k)), .inl Crew_acrossSum, .inl Crew_alongSum]), .inl (0, 9, mb), .inr (6, [.inr (some (.inl 6)), .inr (some (.inl 7)), .inr (some (.inl 8)), .inr (some (.inl 9)), .inr (some (.inl 10)), .inl ((nI T)), .inl Rep_walls, .inl ((nI c))]), .inl (0, 8, Rep_mintX), .inl (0, 8, Rep_mintY), .inl (2, 384, Rep_wall), .inl (0, 48, Rep_mintOf), .inl (0, 48, Rep_grainsOf)] := fun {Crew_acrossSum Crew_alongSum} => by
      show b_X11_falseOnes_75 l _ _ _ _
      refine (show o_aload 0 _ _ _ _ from ?_)
      refine call0 (c_X11_wayBits) rfl rfl ?_
      rintro r h' ⟨rfl, rfl⟩
      refine call0 (c_X1_fewestFalse (n := k) (c := c) (p := p) (a := a) (b := b) hn1 hn hc hp ha hb' hM) rfl rfl ?_
      rintro r h' ⟨u', v', rfl, rfl⟩
      refine call0 (e_X11_sizeOrBits (w := w) (fun x hx => by have := bsG_lt hx; omega) hw) rfl rfl ?_
      rintro r h' ⟨rfl, rfl⟩
      exact ⟨k, mb, u', v', k9, by rw [flV_t hy], rfl⟩
    refine And.intro (fun z => absurd z (by show ¬ ((_ : Int32) = _); decide)) (fun _ => ?_)
    refine And.intro (fun _ => go) (fun (za : ¬ a = 0) => ?_)
    refine And.intro (fun _ => go) (fun (zb : ¬ b = 0) => ?_)
    exact ⟨k, mb, _, _, k9, by rw [flV_t hy, fl_00 za zb]; rfl, rfl⟩
/-! the other side -/
theorem fo226 {l : Launch} {c73 c116 : Blk} {Rv : Option PV → PH → Prop} {v0 v1 v2 v5 v6 v9 v10 v11 v13 : Option PV} {a b x y bs J : Int32} {h : PH} (h1 : (x = a ∧ y = b) → c116 [v0, v1, v2, some (.inl a), some (.inl b), v5, v6, some (.inl J), some (.inl (f_add J 1)), v9, v10, v11, some (.inl x), some (.inl y)] [] h) (h2 : ¬ (x = a ∧ y = b) → c116 [v0, v1, v2, some (.inl a), some (.inl b), v5, v6, some (.inl bs), some (.inl (f_add J 1)), v9, v10, v11, some (.inl x), some (.inl y)] [] h) : b_X12_falseOnes_226 l c73 c116 Rv [v0, v1, v2, some (.inl a), some (.inl b), v5, v6, some (.inl bs), some (.inl J), v9, v10, v11, some (.inl x), v13] [.inl y] h := by
  refine And.intro (fun (q : x = a) => ?_) (fun (q : ¬ x = a) => ?_)
  · refine And.intro (fun (r : y = b) => ?_) (fun (r : ¬ y = b) => ?_)
    · exact h1 ⟨q, r⟩
    · exact h2 (fun z => r z.2)
  · exact h2 (fun z => q z.1)
theorem fo194 {l : Launch} {c73 c116 : Blk} {Rv : Option PV → PH → Prop} {v0 v1 v2 v5 v6 v11 v12 v13 : Option PV} {a b A B g bs J : Int32} {h : PH} (hl : Nat.ble h.length 1000 = true) (hg : (g = 0 ∧ ¬ (¬ A = 0 ∧ szI B ≤ szI A)) ∨ (g = 1 ∧ (¬ A = 0 ∧ szI B ≤ szI A))) (h1 : fpV A B = (a, b) → ∀ z11 z12 z13 : Option PV, c116 [v0, v1, v2, some (.inl a), some (.inl b), v5, v6, some (.inl J), some (.inl (f_add J 1)), some (.inl A), some (.inl B), z11, z12, z13] [] h) (h2 : ¬ fpV A B = (a, b) → ∀ z11 z12 z13 : Option PV, c116 [v0, v1, v2, some (.inl a), some (.inl b), v5, v6, some (.inl bs), some (.inl (f_add J 1)), some (.inl A), some (.inl B), z11, z12, z13] [] h) : b_X12_falseOnes_194 l c73 c116 Rv [v0, v1, v2, some (.inl a), some (.inl b), v5, v6, some (.inl bs), some (.inl J), some (.inl A), some (.inl B), v11, v12, v13] [.inl g] h := by
  rcases hg with ⟨rfl, hg⟩ | ⟨rfl, hg⟩
  · have e : fpV A B = (0, sgV B) := if_neg hg
    refine And.intro (fun _ => ?_) (fun z => absurd rfl z)
    refine And.intro (fun _ => ?_) (fun z => absurd rfl z)
    refine call0 (e_X12_signV (K := B)) (show (true && true && Nat.ble h.length 1000) = true by rw [hl]; rfl) rfl ?_
    rintro r h' ⟨rfl, rfl⟩
    exact fo226 (v13 := v13) (fun z => h1 (by rw [e, z.1, z.2]) _ _ _) (fun z => h2 (by rw [e]; exact fun q => z ⟨congrArg Prod.fst q, congrArg Prod.snd q⟩) _ _ _)
  · have e : fpV A B = (sgV A, 0) := if_pos hg
    refine And.intro (fun z => absurd z (by show ¬ ((_ : Int32) = _); decide)) (fun _ => ?_)
    refine call0 (e_X12_signV (K := A)) (show (true && true && Nat.ble h.length 1000) = true by rw [hl]; rfl) rfl ?_
    rintro r h' ⟨rfl, rfl⟩
    refine And.intro (fun z => absurd z (by show ¬ ((_ : Int32) = _); decide)) (fun _ => ?_)
    exact fo226 (v13 := v13) (fun z => h1 (by rw [e, z.1, z.2]) _ _ _) (fun z => h2 (by rw [e]; exact fun q => z ⟨congrArg Prod.fst q, congrArg Prod.snd q⟩) _ _ _)
theorem and_k (a b : Nat) : f_and (nI a) (nI b) = nI (a &&& b) := by
  apply b_ext
  intro i hi
  show bt (nI a &&& nI b) i = bt (nI (a &&& b)) i
  rw [b_and, bt_n hi, bt_n hi, bt_n hi, Nat.testBit_and]
set_option maxRecDepth 100000 in
theorem c_X12_falseOnes {l : Launch} {M_now M_aside M_kept M_isWall M_wasWall M_said M_waitsAt M_saidLetter M_saidFrom M_saidHalf M_saidTo M_codes M_clauseOf M_codeFrom M_codeHalf M_codeTo M_stack M_facts M_newStamps M_roundFrom M_roundAt M_roundTimes M_usesNow M_wasAt M_fewestFor M_getsOf : List (Option Nat)} {M_place0 M_length0 M_fault M_number0 M_open M_codeMany M_waiting M_saidMany M_clauses M_newMany M_rounds M_stampFrom M_stampTimes M_lines M_spot0 M_pullAcross M_pullAlong M_stepsNow M_fallenNow M_isKept : Int32} {M_mintAt M_mintOf M_wholeOf M_tape M_someOf : Nat → Int32}  {o fm fw fx fy : Nat → Nat} {n p w t c T : Nat} {a b : Int32} (hn1 : 1 ≤ n) (hn : n ≤ 9) (hp : p ≤ 383) (ha : a = -1 ∨ a = 0 ∨ a = 1) (hb' : b = -1 ∨ b = 0 ∨ b = 1) (hw : w ≤ 1) (ht : t ≤ 260) (hnt : n ≤ t) (hc : c ≤ 48) (hm : ∀ s, s < c → fm s < 8 ∧ fw s ≤ 2 ∧ M_mintOf s = nI (fm s) ∧ M_wholeOf s = nI (fw s)) (hx : ∀ m, m < 8 → (T.testBit m = true ∧ fx m ≤ 23 ∧ fy m ≤ 15 ∧ M_mintAt m = nI (24 * fy m + fx m)) ∨ (T.testBit m = false ∧ M_mintAt m = -1)) (hS : ∀ i, i < 9 → 0 ≤ (M_someOf i).toInt ∧ (M_someOf i).toInt ≤ 47) (hb : ∀ i, i < n → o i ≤ 255 ∧ f_and (M_tape i) 255 = nI (o i)) : MetP l 3 yX12_falseOnes cX12_falseOnes 14 (some .int) 0 0 [.inr (some (.inl 0)), .inl (nI n), .inl (nI p), .inl a, .inl b, .inl (nI w)] [.inr (11, [.inr (some (.inr M_now)), .inr (some (.inr M_aside)), .inr (some (.inr M_kept)), .inr (some (.inl 1)), .inr (some (.inl 2)), .inr (some (.inl 3)), .inr (some (.inr M_isWall)), .inr (some (.inr M_wasWall)), .inl ((nI c)), .inr (some (.inl 4)), .inl ((nI t)), .inl M_place0, .inl M_length0, .inl M_fault, .inl M_number0, .inl M_open, .inl M_codeMany, .inl M_waiting, .inl M_saidMany, .inl M_clauses, .inr (some (.inr M_said)), .inr (some (.inr M_waitsAt)), .inr (some (.inr M_saidLetter)), .inr (some (.inr M_saidFrom)), .inr (some (.inr M_saidHalf)), .inr (some (.inr M_saidTo)), .inr (some (.inr M_codes)), .inr (some (.inr M_clauseOf)), .inr (some (.inr M_codeFrom)), .inr (some (.inr M_codeHalf)), .inr (some (.inr M_codeTo)), .inr (some (.inr M_stack)), .inr (some (.inr M_facts)), .inr (some (.inr M_newStamps)), .inr (some (.inr M_roundFrom)), .inr (some (.inr M_roundAt)), .inr (some (.inr M_roundTimes)), .inl M_newMany, .inl M_rounds, .inl M_stampFrom, .inl M_stampTimes, .inl M_lines, .inl M_spot0, .inl M_pullAcross, .inl M_pullAlong, .inl M_stepsNow, .inl M_fallenNow, .inr (some (.inr M_usesNow)), .inr (some (.inr M_wasAt)), .inr (some (.inl 5)), .inr (some (.inr M_fewestFor)), .inr (some (.inr M_getsOf)), .inl M_isKept]), .inl (0, 8, M_mintAt), .inl (0, 48, M_mintOf), .inl (0, 48, M_wholeOf), .inl (1, 260, M_tape), .inl (0, 9, M_someOf)] (fun r h' => ∃ so : Nat → Int32, (∀ i, i < 9 → 0 ≤ (so i).toInt ∧ (so i).toInt ≤ 47) ∧ r = some (.inl (flV c T fm fw fx fy o n p a b w)) ∧ h' = [.inr (11, [.inr (some (.inr M_now)), .inr (some (.inr M_aside)), .inr (some (.inr M_kept)), .inr (some (.inl 1)), .inr (some (.inl 2)), .inr (some (.inl 3)), .inr (some (.inr M_isWall)), .inr (some (.inr M_wasWall)), .inl ((nI c)), .inr (some (.inl 4)), .inl 0, .inl M_place0, .inl M_length0, .inl M_fault, .inl M_number0, .inl M_open, .inl M_codeMany, .inl M_waiting, .inl M_saidMany, .inl M_clauses, .inr (some (.inr M_said)), .inr (some (.inr M_waitsAt)), .inr (some (.inr M_saidLetter)), .inr (some (.inr M_saidFrom)), .inr (some (.inr M_saidHalf)), .inr (some (.inr M_saidTo)), .inr (some (.inr M_codes)), .inr (some (.inr M_clauseOf)), .inr (some (.inr M_codeFrom)), .inr (some (.inr M_codeHalf)), .inr (some (.inr M_codeTo)), .inr (some (.inr M_stack)), .inr (some (.inr M_facts)), .inr (some (.inr M_newStamps)), .inr (some (.inr M_roundFrom)), .inr (some (.inr M_roundAt)), .inr (some (.inr M_roundTimes)), .inl M_newMany, .inl M_rounds, .inl M_stampFrom, .inl M_stampTimes, .inl M_lines, .inl M_spot0, .inl M_pullAcross, .inl M_pullAlong, .inl M_stepsNow, .inl M_fallenNow, .inr (some (.inr M_usesNow)), .inr (some (.inr M_wasAt)), .inr (some (.inl 5)), .inr (some (.inr M_fewestFor)), .inr (some (.inr M_getsOf)), .inl M_isKept]), .inl (0, 8, M_mintAt), .inl (0, 48, M_mintOf), .inl (0, 48, M_wholeOf), .inl (1, 260, M_tape), .inl (0, 9, so)]) := by
  have pw := pw_le n (by omega)
  have pw9 : 2 ^ n ≤ 2 ^ 9 := Nat.pow_le_pow_right (by omega) hn
  have pw9 : 2 ^ n ≤ 512 := pw9
  obtain ⟨tw, eW⟩ : ∃ tw : Nat → Nat, tw = fun i => fw (o i) := ⟨_, rfl⟩
  obtain ⟨P, eP⟩ : ∃ P, P = fun S => dsB tw n S && flB tw (fun i => fx (fm (o i))) (fun i => fy (fm (o i))) n p a b S := ⟨_, rfl⟩
  obtain ⟨Z, eZ⟩ : ∃ Z, Z = prF (zrB tw) n := ⟨_, rfl⟩
  have fin : alW c T fm o n = true → flV c T fm fw fx fy o n p a b w = szV (bsG P (2 ^ n)) w := fun hy => by
    rw [flV_t hy, ← eW, fl_flt hn, eP]
  have hM0 : ∀ so : Nat → Int32, alW c T fm o n = true → (∀ i, i < n → so i = nI (o i)) → crR so M_mintOf M_wholeOf M_mintAt o tw (fun i => fx (fm (o i))) (fun i => fy (fm (o i))) n := fun so hy hmb => by
    rw [eW]
    exact crR_of hc hy hmb hm hx
  refine m_X12_falseOnes (fun μ L st h => ∃ (k : Nat) (so : Nat → Int32), μ = 1000 + (n - k) ∧ k ≤ n ∧ alW c T fm o n = true ∧ (∀ i, i < 9 → 0 ≤ (so i).toInt ∧ (so i).toInt ≤ 47) ∧ (∀ i, i < n → so i = nI (o i)) ∧ L = [some (.inr (some (.inl 0))), some (.inl (nI n)), some (.inl (nI p)), some (.inl a), some (.inl b), some (.inl (nI w)), some (.inl (nI (prF (zrB tw) k))), some (.inl (nI k)), none, none, none, none, none, none] ∧ st = [] ∧ h = [.inr (11, [.inr (some (.inr M_now)), .inr (some (.inr M_aside)), .inr (some (.inr M_kept)), .inr (some (.inl 1)), .inr (some (.inl 2)), .inr (some (.inl 3)), .inr (some (.inr M_isWall)), .inr (some (.inr M_wasWall)), .inl ((nI c)), .inr (some (.inl 4)), .inl 0, .inl M_place0, .inl M_length0, .inl M_fault, .inl M_number0, .inl M_open, .inl M_codeMany, .inl M_waiting, .inl M_saidMany, .inl M_clauses, .inr (some (.inr M_said)), .inr (some (.inr M_waitsAt)), .inr (some (.inr M_saidLetter)), .inr (some (.inr M_saidFrom)), .inr (some (.inr M_saidHalf)), .inr (some (.inr M_saidTo)), .inr (some (.inr M_codes)), .inr (some (.inr M_clauseOf)), .inr (some (.inr M_codeFrom)), .inr (some (.inr M_codeHalf)), .inr (some (.inr M_codeTo)), .inr (some (.inr M_stack)), .inr (some (.inr M_facts)), .inr (some (.inr M_newStamps)), .inr (some (.inr M_roundFrom)), .inr (some (.inr M_roundAt)), .inr (some (.inr M_roundTimes)), .inl M_newMany, .inl M_rounds, .inl M_stampFrom, .inl M_stampTimes, .inl M_lines, .inl M_spot0, .inl M_pullAcross, .inl M_pullAlong, .inl M_stepsNow, .inl M_fallenNow, .inr (some (.inr M_usesNow)), .inr (some (.inr M_wasAt)), .inr (some (.inl 5)), .inr (some (.inr M_fewestFor)), .inr (some (.inr M_getsOf)), .inl M_isKept]), .inl (0, 8, M_mintAt), .inl (0, 48, M_mintOf), .inl (0, 48, M_wholeOf), .inl (1, 260, M_tape), .inl (0, 9, so)]) (fun μ L st h => ∃ (j : Nat) (so : Nat → Int32) (z9 z10 z11 z12 z13 : Option PV), μ = 2 ^ n - j ∧ j ≤ 2 ^ n ∧ alW c T fm o n = true ∧ (∀ i, i < 9 → 0 ≤ (so i).toInt ∧ (so i).toInt ≤ 47) ∧ (∀ i, i < n → so i = nI (o i)) ∧ L = [some (.inr (some (.inl 0))), some (.inl (nI n)), some (.inl (nI p)), some (.inl a), some (.inl b), some (.inl (nI w)), some (.inl (nI Z)), some (.inl (fwV (bsG P j))), some (.inl (nI j)), z9, z10, z11, z12, z13] ∧ st = [] ∧ h = [.inr (11, [.inr (some (.inr M_now)), .inr (some (.inr M_aside)), .inr (some (.inr M_kept)), .inr (some (.inl 1)), .inr (some (.inl 2)), .inr (some (.inl 3)), .inr (some (.inr M_isWall)), .inr (some (.inr M_wasWall)), .inl ((nI c)), .inr (some (.inl 4)), .inl 0, .inl M_place0, .inl M_length0, .inl M_fault, .inl M_number0, .inl M_open, .inl M_codeMany, .inl M_waiting, .inl M_saidMany, .inl M_clauses, .inr (some (.inr M_said)), .inr (some (.inr M_waitsAt)), .inr (some (.inr M_saidLetter)), .inr (some (.inr M_saidFrom)), .inr (some (.inr M_saidHalf)), .inr (some (.inr M_saidTo)), .inr (some (.inr M_codes)), .inr (some (.inr M_clauseOf)), .inr (some (.inr M_codeFrom)), .inr (some (.inr M_codeHalf)), .inr (some (.inr M_codeTo)), .inr (some (.inr M_stack)), .inr (some (.inr M_facts)), .inr (some (.inr M_newStamps)), .inr (some (.inr M_roundFrom)), .inr (some (.inr M_roundAt)), .inr (some (.inr M_roundTimes)), .inl M_newMany, .inl M_rounds, .inl M_stampFrom, .inl M_stampTimes, .inl M_lines, .inl M_spot0, .inl M_pullAcross, .inl M_pullAlong, .inl M_stepsNow, .inl M_fallenNow, .inr (some (.inr M_usesNow)), .inr (some (.inr M_wasAt)), .inr (some (.inl 5)), .inr (some (.inr M_fewestFor)), .inr (some (.inr M_getsOf)), .inl M_isKept]), .inl (0, 8, M_mintAt), .inl (0, 48, M_mintOf), .inl (0, 48, M_wholeOf), .inl (1, 260, M_tape), .inl (0, 9, so)]) (Nat.le_of_ble_eq_true rfl) ?_ ?_ ?_
  · refine call0 (c_in) rfl rfl ?_
    rintro r h' ⟨rfl, rfl⟩
    refine br_b (fun z => absurd ((nI_bt (a := 1) (b := 9) (by omega) (by omega) (by omega)).mpr ⟨hn1, hn⟩) z) (fun _ => ?_)
    refine call0 (c_misPlace) rfl rfl ?_
    rintro r h' ⟨rfl, rfl⟩
    refine br_b (fun z => absurd ((nI_bt (a := 0) (b := 383) (by omega) (by omega) (by omega)).mpr ⟨by omega, hp⟩) z) (fun _ => ?_)
    refine call0 (c_in) rfl rfl ?_
    rintro r h' ⟨rfl, rfl⟩
    refine br_b (fun z => absurd (b3 ha) z) (fun _ => ?_)
    refine call0 (c_in) rfl rfl ?_
    rintro r h' ⟨rfl, rfl⟩
    refine br_b (fun z => absurd (b3 hb') z) (fun _ => ?_)
    refine call0 (c_in) rfl rfl ?_
    rintro r h' ⟨rfl, rfl⟩
    refine br_b (fun z => absurd ((nI_bt (a := 0) (b := 1) (by omega) (by omega) (by omega)).mpr ⟨by omega, hw⟩) z) (fun _ => ?_)
    refine And.intro (fun _ => ?_) (fun z => absurd ((nI_leI (by omega) (by omega)).mpr hnt) z)
    refine call0 (e_X12_takesStamps (o := o) (fm := fm) (n := n) (c := c) (T := T) hn hc (fun s hs => ⟨(hm s hs).1, (hm s hs).2.2.1⟩) (fun m hm' => (hx m hm').imp (fun z => ⟨z.1, _, by omega, z.2.2.2⟩) (fun z => z)) hS hb) rfl rfl ?_
    rintro r h' ⟨so, hso, hq, rfl⟩
    rcases hq with ⟨rfl, hf⟩ | ⟨rfl, hy, hmb⟩
    · refine And.intro (fun _ => ?_) (fun z => absurd rfl z)
      exact ⟨so, hso, by rw [flV_f hf], rfl⟩
    · refine And.intro (fun z => absurd z (by show ¬ ((_ : Int32) = _); decide)) (fun _ => ?_)
      exact ⟨_, 0, so, rfl, by omega, hy, hso, hmb, rfl, rfl, rfl⟩
  · rintro μ L st h ⟨k, so, hμ, h1, hy, hso, hmb, rfl, rfl, rfl⟩
    refine And.intro (fun q1 => ?_) (fun q1 => ?_)
    · have q1 := (nI_leI (by omega) (by omega)).mp q1
      obtain rfl : k = n := by omega
      exact ⟨2 ^ k - 0, by omega, 0, so, none, none, none, none, none, rfl, by omega, hy, hso, hmb, by rw [eZ] <;> rfl, rfl, rfl⟩
    · have q1 : k < n := Nat.lt_of_not_le fun z => q1 ((nI_leI (by omega) (by omega)).mpr z)
      obtain ⟨m1, m2, m, m3, m4, m5, m6, m7, m8, m9⟩ := hM0 so hy hmb k q1
      refine And.intro (vp_in_nI (n := k) (by omega) (by omega)) ?_
      rw [nI_clamp (by omega), m1]
      refine And.intro (vp_in_nI (n := o k) (by omega) (by omega)) ?_
      rw [nI_clamp (by omega), m5]
      refine And.intro (fun (v : nI (tw k) = 0) => ?_) (fun (v : ¬ nI (tw k) = 0) => ?_)
      · have v : tw k = 0 := (nI_eq (b := 0) (by omega) (by omega)).mp v
        have e1 : f_or (nI (prF (zrB tw) k)) (f_shl 1 (nI k)) = nI (prF (zrB tw) (k + 1)) := by
          rw [pw_n k (by omega), or_k]
          congr 1
          exact (if_pos (by unfold zrB; rw [v]; rfl)).symm
        exact ⟨1000 + (n - (k + 1)), by omega, k + 1, so, rfl, by omega, hy, hso, hmb, by rw [← e1, ← nI_1 k] <;> rfl, rfl, rfl⟩
      · have v : ¬ tw k = 0 := fun z => v (by rw [z]; rfl)
        have e1 : prF (zrB tw) (k + 1) = prF (zrB tw) k := if_neg (fun z => v (Nat.eq_of_beq_eq_true z))
        exact ⟨1000 + (n - (k + 1)), by omega, k + 1, so, rfl, by omega, hy, hso, hmb, by rw [e1, ← nI_1 k] <;> rfl, rfl, rfl⟩
  · rintro μ L st h ⟨j, so, z9, z10, z11, z12, z13, hμ, h1, hy, hso, hmb, rfl, rfl, rfl⟩
    refine And.intro (fun (q1 : f_shl 1 (nI n) ≤ nI j) => ?_) (fun (q1 : ¬ f_shl 1 (nI n) ≤ nI j) => ?_) <;> rw [pw_n n (by omega)] at q1
    · have q1 := (nI_leI (by omega) (by omega)).mp q1
      obtain rfl : j = 2 ^ n := by omega
      rcases (by omega : w = 0 ∨ w = 1) with rfl | rfl
      · refine And.intro (fun z => absurd z (by show ¬ ((_ : Int32) = _); decide)) (fun _ => ?_)
        cases eb : bsG P (2 ^ n) with
        | none =>
          refine And.intro (fun _ => ?_) (fun z => absurd rfl z)
          exact ⟨so, hso, by rw [fin hy, eb]; rfl, rfl⟩
        | some x =>
          have xl := bsG_lt eb
          refine And.intro (fun z => absurd z (n2_n (by omega))) (fun _ => ?_)
          refine call0 (e_X12_bits (S := x)) rfl rfl ?_
          rintro r h' ⟨rfl, rfl⟩
          exact ⟨so, hso, by rw [fin hy, eb]; rfl, rfl⟩
      · refine And.intro (fun _ => ?_) (fun z => absurd rfl z)
        exact ⟨so, hso, by rw [fin hy]; cases bsG P (2 ^ n) <;> rfl, rfl⟩
    · have q1 : j < 2 ^ n := Nat.lt_of_not_le fun z => q1 ((nI_leI (by omega) (by omega)).mpr z)
      have hM := hM0 so hy hmb
      have jl : j &&& Z ≤ j := Nat.and_le_left
      have eD : dsB tw n j = Nat.beq (j &&& Z) 0 := by unfold dsB; rw [eZ]
      have hP : P j = (dsB tw n j && flB tw (fun i => fx (fm (o i))) (fun i => fy (fm (o i))) n p a b j) := by rw [eP]
      -- nothing changes
      have no : ∀ {y9 y10 y11 y12 y13 : Option PV}, fwV (bsG P (j + 1)) = fwV (bsG P j) → ∃ μ', μ' < μ ∧ ∃ (j' : Nat) (so' : Nat → Int32) (x9 x10 x11 x12 x13 : Option PV), μ' = 2 ^ n - j' ∧ j' ≤ 2 ^ n ∧ alW c T fm o n = true ∧ (∀ i, i < 9 → 0 ≤ (so' i).toInt ∧ (so' i).toInt ≤ 47) ∧ (∀ i, i < n → so' i = nI (o i)) ∧ ([some (.inr (some (.inl 0))), some (.inl (nI n)), some (.inl (nI p)), some (.inl a), some (.inl b), some (.inl (nI w)), some (.inl (nI Z)), some (.inl (fwV (bsG P j))), some (.inl (f_add (nI j) 1)), y9, y10, y11, y12, y13] : PL) = [some (.inr (some (.inl 0))), some (.inl (nI n)), some (.inl (nI p)), some (.inl a), some (.inl b), some (.inl (nI w)), some (.inl (nI Z)), some (.inl (fwV (bsG P j'))), some (.inl (nI j')), x9, x10, x11, x12, x13] ∧ ([] : List PV) = [] ∧ ([.inr (11, [.inr (some (.inr M_now)), .inr (some (.inr M_aside)), .inr (some (.inr M_kept)), .inr (some (.inl 1)), .inr (some (.inl 2)), .inr (some (.inl 3)), .inr (some (.inr M_isWall)), .inr (some (.inr M_wasWall)), .inl ((nI c)), .inr (some (.inl 4)), .inl 0, .inl M_place0, .inl M_length0, .inl M_fault, .inl M_number0, .inl M_open, .inl M_codeMany, .inl M_waiting, .inl M_saidMany, .inl M_clauses, .inr (some (.inr M_said)), .inr (some (.inr M_waitsAt)), .inr (some (.inr M_saidLetter)), .inr (some (.inr M_saidFrom)), .inr (some (.inr M_saidHalf)), .inr (some (.inr M_saidTo)), .inr (some (.inr M_codes)), .inr (some (.inr M_clauseOf)), .inr (some (.inr M_codeFrom)), .inr (some (.inr M_codeHalf)), .inr (some (.inr M_codeTo)), .inr (some (.inr M_stack)), .inr (some (.inr M_facts)), .inr (some (.inr M_newStamps)), .inr (some (.inr M_roundFrom)), .inr (some (.inr M_roundAt)), .inr (some (.inr M_roundTimes)), .inl M_newMany, .inl M_rounds, .inl M_stampFrom, .inl M_stampTimes, .inl M_lines, .inl M_spot0, .inl M_pullAcross, .inl M_pullAlong, .inl M_stepsNow, .inl M_fallenNow, .inr (some (.inr M_usesNow)), .inr (some (.inr M_wasAt)), .inr (some (.inl 5)), .inr (some (.inr M_fewestFor)), .inr (some (.inr M_getsOf)), .inl M_isKept]), .inl (0, 8, M_mintAt), .inl (0, 48, M_mintOf), .inl (0, 48, M_wholeOf), .inl (1, 260, M_tape), .inl (0, 9, so)] : PH) = [.inr (11, [.inr (some (.inr M_now)), .inr (some (.inr M_aside)), .inr (some (.inr M_kept)), .inr (some (.inl 1)), .inr (some (.inl 2)), .inr (some (.inl 3)), .inr (some (.inr M_isWall)), .inr (some (.inr M_wasWall)), .inl ((nI c)), .inr (some (.inl 4)), .inl 0, .inl M_place0, .inl M_length0, .inl M_fault, .inl M_number0, .inl M_open, .inl M_codeMany, .inl M_waiting, .inl M_saidMany, .inl M_clauses, .inr (some (.inr M_said)), .inr (some (.inr M_waitsAt)), .inr (some (.inr M_saidLetter)), .inr (some (.inr M_saidFrom)), .inr (some (.inr M_saidHalf)), .inr (some (.inr M_saidTo)), .inr (some (.inr M_codes)), .inr (some (.inr M_clauseOf)), .inr (some (.inr M_codeFrom)), .inr (some (.inr M_codeHalf)), .inr (some (.inr M_codeTo)), .inr (some (.inr M_stack)), .inr (some (.inr M_facts)), .inr (some (.inr M_newStamps)), .inr (some (.inr M_roundFrom)), .inr (some (.inr M_roundAt)), .inr (some (.inr M_roundTimes)), .inl M_newMany, .inl M_rounds, .inl M_stampFrom, .inl M_stampTimes, .inl M_lines, .inl M_spot0, .inl M_pullAcross, .inl M_pullAlong, .inl M_stepsNow, .inl M_fallenNow, .inr (some (.inr M_usesNow)), .inr (some (.inr M_wasAt)), .inr (some (.inl 5)), .inr (some (.inr M_fewestFor)), .inr (some (.inr M_getsOf)), .inl M_isKept]), .inl (0, 8, M_mintAt), .inl (0, 48, M_mintOf), .inl (0, 48, M_wholeOf), .inl (1, 260, M_tape), .inl (0, 9, so')] := fun {y9 y10 y11 y12 y13} e => ⟨2 ^ n - (j + 1), by omega, j + 1, so, y9, y10, y11, y12, y13, rfl, by omega, hy, hso, hmb, by rw [e, ← nI_1 j] <;> rfl, rfl, rfl⟩
      have nP : ¬ P j = true → fwV (bsG P (j + 1)) = fwV (bsG P j) := fun z => congrArg fwV (if_neg z)
      refine And.intro (fun (d : f_and (nI j) (nI Z) = 0) => ?_) (fun (d : ¬ f_and (nI j) (nI Z) = 0) => ?_) <;> rw [and_k] at d
      · have d : j &&& Z = 0 := (nI_eq (b := 0) (by omega) (by omega)).mp d
        have hP : P j = flB tw (fun i => fx (fm (o i))) (fun i => fy (fm (o i))) n p a b j := by rw [hP, eD, d]; rfl
        refine call0 (e_X12_isLess (b := bsG P j) (j := j) (fun x hx => by have := bsG_lt hx; omega)) rfl rfl ?_
        rintro r h' ⟨rfl, rfl⟩
        refine br_b (fun w' => ?_) (fun w' => ?_)
        · refine no ?_
          by_cases pj : P j = true
          · have e2 : bsG P (j + 1) = some (fewS (bsG P j) j) := if_pos pj
            rw [e2, fw_f w']
          · exact nP pj
        · refine call0 (e_X12_pullA (B := fun i => !j.testBit i) (n := n) (p := p) hn hp (fun i hi => no_b (by omega)) hM) rfl rfl ?_
          rintro r h' ⟨rfl, rfl⟩
          refine call0 (e_X12_pullL (B := fun i => !j.testBit i) (n := n) (p := p) hn hp (fun i hi => no_b (by omega)) hM) rfl rfl ?_
          rintro r h' ⟨rfl, rfl⟩
          obtain ⟨A, eA⟩ : ∃ A, A = plB (tA tw (fun i => fx (fm (o i))) p) (fun i => !j.testBit i) n := ⟨_, rfl⟩
          obtain ⟨L, eL⟩ : ∃ L, L = plB (tL tw (fun i => fy (fm (o i))) p) (fun i => !j.testBit i) n := ⟨_, rfl⟩
          have hF : P j = decide (fpV A L = (a, b)) := by rw [hP, eA, eL]; rfl
          rw [← eA, ← eL]
          have y1 : fpV A L = (a, b) → ∀ z11 z12 z13 : Option PV, _ := fun z z11 z12 z13 => (show ∃ μ', μ' < μ ∧ ∃ (j' : Nat) (so' : Nat → Int32) (x9 x10 x11 x12 x13 : Option PV), μ' = 2 ^ n - j' ∧ j' ≤ 2 ^ n ∧ alW c T fm o n = true ∧ (∀ i, i < 9 → 0 ≤ (so' i).toInt ∧ (so' i).toInt ≤ 47) ∧ (∀ i, i < n → so' i = nI (o i)) ∧ ([some (.inr (some (.inl 0))), some (.inl (nI n)), some (.inl (nI p)), some (.inl a), some (.inl b), some (.inl (nI w)), some (.inl (nI Z)), some (.inl (nI j)), some (.inl (f_add (nI j) 1)), some (.inl A), some (.inl L), z11, z12, z13] : PL) = [some (.inr (some (.inl 0))), some (.inl (nI n)), some (.inl (nI p)), some (.inl a), some (.inl b), some (.inl (nI w)), some (.inl (nI Z)), some (.inl (fwV (bsG P j'))), some (.inl (nI j')), x9, x10, x11, x12, x13] ∧ ([] : List PV) = [] ∧ ([.inr (11, [.inr (some (.inr M_now)), .inr (some (.inr M_aside)), .inr (some (.inr M_kept)), .inr (some (.inl 1)), .inr (some (.inl 2)), .inr (some (.inl 3)), .inr (some (.inr M_isWall)), .inr (some (.inr M_wasWall)), .inl ((nI c)), .inr (some (.inl 4)), .inl 0, .inl M_place0, .inl M_length0, .inl M_fault, .inl M_number0, .inl M_open, .inl M_codeMany, .inl M_waiting, .inl M_saidMany, .inl M_clauses, .inr (some (.inr M_said)), .inr (some (.inr M_waitsAt)), .inr (some (.inr M_saidLetter)), .inr (some (.inr M_saidFrom)), .inr (some (.inr M_saidHalf)), .inr (some (.inr M_saidTo)), .inr (some (.inr M_codes)), .inr (some (.inr M_clauseOf)), .inr (some (.inr M_codeFrom)), .inr (some (.inr M_codeHalf)), .inr (some (.inr M_codeTo)), .inr (some (.inr M_stack)), .inr (some (.inr M_facts)), .inr (some (.inr M_newStamps)), .inr (some (.inr M_roundFrom)), .inr (some (.inr M_roundAt)), .inr (some (.inr M_roundTimes)), .inl M_newMany, .inl M_rounds, .inl M_stampFrom, .inl M_stampTimes, .inl M_lines, .inl M_spot0, .inl M_pullAcross, .inl M_pullAlong, .inl M_stepsNow, .inl M_fallenNow, .inr (some (.inr M_usesNow)), .inr (some (.inr M_wasAt)), .inr (some (.inl 5)), .inr (some (.inr M_fewestFor)), .inr (some (.inr M_getsOf)), .inl M_isKept]), .inl (0, 8, M_mintAt), .inl (0, 48, M_mintOf), .inl (0, 48, M_wholeOf), .inl (1, 260, M_tape), .inl (0, 9, so)] : PH) = [.inr (11, [.inr (some (.inr M_now)), .inr (some (.inr M_aside)), .inr (some (.inr M_kept)), .inr (some (.inl 1)), .inr (some (.inl 2)), .inr (some (.inl 3)), .inr (some (.inr M_isWall)), .inr (some (.inr M_wasWall)), .inl ((nI c)), .inr (some (.inl 4)), .inl 0, .inl M_place0, .inl M_length0, .inl M_fault, .inl M_number0, .inl M_open, .inl M_codeMany, .inl M_waiting, .inl M_saidMany, .inl M_clauses, .inr (some (.inr M_said)), .inr (some (.inr M_waitsAt)), .inr (some (.inr M_saidLetter)), .inr (some (.inr M_saidFrom)), .inr (some (.inr M_saidHalf)), .inr (some (.inr M_saidTo)), .inr (some (.inr M_codes)), .inr (some (.inr M_clauseOf)), .inr (some (.inr M_codeFrom)), .inr (some (.inr M_codeHalf)), .inr (some (.inr M_codeTo)), .inr (some (.inr M_stack)), .inr (some (.inr M_facts)), .inr (some (.inr M_newStamps)), .inr (some (.inr M_roundFrom)), .inr (some (.inr M_roundAt)), .inr (some (.inr M_roundTimes)), .inl M_newMany, .inl M_rounds, .inl M_stampFrom, .inl M_stampTimes, .inl M_lines, .inl M_spot0, .inl M_pullAcross, .inl M_pullAlong, .inl M_stepsNow, .inl M_fallenNow, .inr (some (.inr M_usesNow)), .inr (some (.inr M_wasAt)), .inr (some (.inl 5)), .inr (some (.inr M_fewestFor)), .inr (some (.inr M_getsOf)), .inl M_isKept]), .inl (0, 8, M_mintAt), .inl (0, 48, M_mintOf), .inl (0, 48, M_wholeOf), .inl (1, 260, M_tape), .inl (0, 9, so')] from by
            have e2 : bsG P (j + 1) = some (fewS (bsG P j) j) := if_pos (by rw [hF]; exact decide_eq_true z)
            exact ⟨2 ^ n - (j + 1), by omega, j + 1, so, _, _, z11, z12, z13, rfl, by omega, hy, hso, hmb, by rw [e2, fw_t w', ← nI_1 j] <;> rfl, rfl, rfl⟩)
          have y2 : ¬ fpV A L = (a, b) → ∀ z11 z12 z13 : Option PV, _ := fun z z11 z12 z13 => no (y9 := some (.inl A)) (y10 := some (.inl L)) (y11 := z11) (y12 := z12) (y13 := z13) (nP (by rw [hF]; exact fun q => z (of_decide_eq_true q)))
          refine And.intro (fun (q : A = 0) => ?_) (fun (q : ¬ A = 0) => ?_)
          · exact fo194 (v11 := z11) (v12 := z12) (v13 := z13) (g := 0) rfl (Or.inl ⟨rfl, fun z => z.1 q⟩) y1 y2
          · refine call0 (e_X12_sizeV (K := A)) rfl rfl ?_
            rintro r h' ⟨rfl, rfl⟩
            refine call0 (e_X12_sizeV (K := L)) rfl rfl ?_
            rintro r h' ⟨rfl, rfl⟩
            refine And.intro (fun (r : szI A < szI L) => ?_) (fun (r : ¬ szI A < szI L) => ?_)
            · exact fo194 (v11 := z11) (v12 := z12) (v13 := z13) (g := 0) rfl (Or.inl ⟨rfl, fun z => by have a1 := Int32.le_iff_toInt_le.mp z.2; have a2 := Int32.lt_iff_toInt_lt.mp r; omega⟩) y1 y2
            · exact fo194 (v11 := z11) (v12 := z12) (v13 := z13) (g := 1) rfl (Or.inr ⟨rfl, q, Int32.le_iff_toInt_le.mpr (by
                rcases (show (szI A).toInt < (szI L).toInt ∨ (szI L).toInt ≤ (szI A).toInt by omega) with z | z
                · exact absurd (Int32.lt_iff_toInt_lt.mpr z) r
                · exact z)⟩) y1 y2
      · have d : ¬ j &&& Z = 0 := fun z => d (by rw [z]; rfl)
        refine no (nP ?_)
        rw [hP, eD]
        intro z
        rw [Bool.and_eq_true] at z
        exact d (Nat.eq_of_beq_eq_true z.1)

