/-! ===== a rule, and all of them ===== -/
/-- a rule's end -/
def LRu (b : Nat → Nat) (n : Nat) (Txt K4 : Nat → Int32) (wt rf fa : Int32) (p m : Nat) (r : Option PV) (h' : PH) : Prop := (r = some (.inl 0) ∧ ∃ (g a : Nat) (K1 K2 K3 f1 f2 : Nat → Int32) (ru at_ ah sp : Int32), lE b n (0, 0, p, m, []) (.inl (g, a)) ∧ (1 ≤ g ∧ g ≤ 9) ∧ a ≤ n ∧ (0 ≤ ru.toInt ∧ ru.toInt ≤ 16) ∧ sR sp ∧ h' = lwH n Txt K1 K2 K3 K4 ru wt rf at_ ah (ftV g a) sp f1 f2) ∨ (r = some (.inl 1) ∧ ∃ (q : Nat) (K1 K2 K3 f1 f2 : Nat → Int32) (sp : Int32), lT b n (0, 0, p, m, []) (7, 0, q, m, []) ∧ p < q ∧ q ≤ n ∧ m < 16 ∧ sR sp ∧ h' = lwH n Txt K1 K2 K3 K4 (nI (m + 1)) wt rf (nI q) (aV b n q) fa sp f1 f2)
theorem r16 {m : Nat} (h : m ≤ 16) : 0 ≤ (nI m).toInt ∧ (nI m).toInt ≤ 16 := by
  rw [nI_toInt (by omega)]
  omega
theorem LRu_c {l : Launch} {Txt K1 K2 K3 K4 f1 f2 : Nat → Int32} {wt rf fa sp : Int32} {b : Nat → Nat} {n p m q : Nat} {z1 : Option PV} (hn : n ≤ 240) (hm : m < 16) (so : lT b n (0, 0, p, m, []) (3, 0, q, m, [])) (hpq : p < q) (hq : q ≤ n) (hb : txB Txt b n) (hsp : sR sp) : b_X3_readRule_83 l (LRu b n Txt K4 wt rf fa p m) [some (.inr (some (.inl 0))), z1] [] (lwH n Txt K1 K2 K3 K4 (nI (m + 1)) wt rf (nI q) (aV b n q) fa sp f1 f2) := by
  refine call0 (c_X2_write hsp) rfl rfl ?_
  rintro r h' ⟨v2, sp2, f12, f22, rfl, hs2, rfl⟩
  refine call0 (c_X2_beginTest (m := m) hm) rfl rfl ?_
  rintro r h' ⟨k3, rfl, rfl⟩
  refine call0 (c_X6_reads_L (b := b) (n := n) (p := q) (k := 40) hn hq (by omega) hb) rfl rfl ?_
  rintro r h' (⟨v, rfl, rfl⟩ | ⟨v, rfl, rfl⟩)
  · have ql := hr_lt v (by omega)
    refine And.intro (fun z => absurd z (by show ¬ ((_ : Int32) = _); decide)) (fun _ => ?_)
    have hA : RAn l 100 b n 1 := RAn_of (by omega) hn (RAl_of (by omega) hn (RTe_all hn 5 (by omega) 98 (by omega)))
    have ht := hA (Txt := Txt) (K1 := K1) (K2 := K2) (K3 := k3) (K4 := K4) (f1 := f12) (f2 := f22) (ru := nI (m + 1)) (wt := wt) (rf := rf) (fa := fa) (sp := sp2) (p := q + 1) (m := m) (s := [1]) rfl ⟨[], rfl⟩ (by omega) hb hs2
    refine call0 ht rfl rfl ?_
    rintro r h' (⟨rfl, g, a, at2, ah2, sp3, f13, f23, e1, e2, e3, e4, rfl⟩ | ⟨rfl, q2, sp3, f13, f23, e1, e2, e3, e4, e5, rfl⟩)
    · refine And.intro (fun _ => ?_) (fun z => absurd rfl z)
      exact And.intro (Or.inl rfl) (Or.inl ⟨rfl, g, a, _, _, _, _, _, _, _, _, _, lT_E so (lT_E (l_cond v) e1), e2, e3, r16 (by omega), e4, rfl⟩)
    · refine And.intro (fun z => absurd z (by show ¬ ((_ : Int32) = _); decide)) (fun _ => ?_)
      refine call0 (c_X6_reads_L (b := b) (n := n) (p := q2) (k := 41) hn e3 (by omega) hb) rfl rfl ?_
      rintro r h' (⟨v3, rfl, rfl⟩ | ⟨v3, rfl, rfl⟩)
      · have ql2 := hr_lt v3 (by omega)
        refine And.intro (fun z => absurd z (by show ¬ ((_ : Int32) = _); decide)) (fun _ => ?_)
        refine call0 (c_X2_write e5) rfl rfl ?_
        rintro r h' ⟨v4, sp4, f14, f24, rfl, hs4, rfl⟩
        exact And.intro (Or.inr rfl) (Or.inr ⟨rfl, q2 + 1, _, _, _, _, _, _, lT_T so (lT_T (l_cond v) (lT_T e1 (l_rule v3))), by omega, by omega, hm, hs4, rfl⟩)
      · refine And.intro (fun _ => ?_) (fun z => absurd rfl z)
        exact And.intro (Or.inl rfl) (Or.inl ⟨rfl, 1, q2, _, _, _, _, _, _, _, _, _, lT_E so (lT_E (l_cond v) (lT_E e1 (l_nmore e4 v3))), by omega, e3, r16 (by omega), e5, rfl⟩)
  · refine And.intro (fun _ => ?_) (fun z => absurd rfl z)
    exact And.intro (Or.inl rfl) (Or.inl ⟨rfl, 1, q, _, _, _, _, _, _, _, _, _, lT_E so (l_ncond v), by omega, hq, r16 (by omega), hs2, rfl⟩)
theorem LRu_b {l : Launch} {Txt K1 K2 K3 K4 f1 f2 : Nat → Int32} {wt rf fa sp : Int32} {b : Nat → Nat} {n p m h : Nat} (hn : n ≤ 240) (hm : m ≤ 16) (hp : p ≤ n) (hb : txB Txt b n) (hsp : sR sp) (eh : hr b n p = h) (sg : h = 112 ∨ h = 104 ∨ h = 120) : b_X3_readRule_33 l (LRu b n Txt K4 wt rf fa p m) [some (.inr (some (.inl 0))), some (.inl (aV b n p))] [] (lwH n Txt K1 K2 K3 K4 (nI m) wt rf (nI p) (aV b n p) fa sp f1 f2) := by
  have hb' : ∀ i, i < n → b i ≤ 255 := fun i hi => (hb i hi).1
  have pl := hr_lt eh (by omega)
  refine call0 (c_X2_size) rfl rfl ?_
  rintro r h' ⟨rfl, rfl⟩
  by_cases m16 : m < 16
  · refine And.intro (fun _ => ?_) (fun z => absurd ((nI_ltI (b := 16) (by omega) (by omega)).mpr m16) z)
    refine call0 (c_X6_skip_L (n := n) (q := p + 1) (b := b) hn (by omega) (nI_1 p) hb) rfl rfl ?_
    rintro r h' ⟨rfl, rfl⟩
    refine call0 (c_X2_beginRule (m := m) m16) rfl rfl ?_
    rintro r h' ⟨k1, k2, k3, rfl, rfl⟩
    refine And.intro (fun (v : aV b n p = nI 120) => ?_) (fun (v : ¬ aV b n p = nI 120) => ?_)
    · have v := (aV_eq hb' (by omega)).mp v
      exact LRu_c hn m16 (l_fall v (by omega)) (by omega) (by omega) hb hsp
    · have v : ¬ hr b n p = 120 := fun y => v ((aV_eq hb' (by omega)).mpr y)
      have so : lT b n (0, 0, p, m, []) (1, 0, p + 1, m, []) := l_begin (by omega) (by omega)
      have hS : RSu l 100 b n 0 := RSu_all hn 6 (by omega) 100 (by omega)
      have ht := hS (Txt := Txt) (K1 := k1) (K2 := k2) (K3 := k3) (K4 := K4) (f1 := f1) (f2 := f2) (ru := nI (m + 1)) (wt := wt) (rf := rf) (fa := fa) (sp := sp) (k := 0) (p := p + 1) (m := m) (s := []) rfl (by omega) hb hsp
      refine call0 ht rfl rfl ?_
      rintro r h' (⟨rfl, g, a, at2, ah2, sp2, f12, f22, e1, e2, e3, e4, rfl⟩ | ⟨rfl, q, sp2, f12, f22, e1, e2, e3, e4, e5, rfl⟩)
      · refine And.intro (fun _ => ?_) (fun z => absurd rfl z)
        exact And.intro (Or.inl rfl) (Or.inl ⟨rfl, g, a, _, _, _, _, _, _, _, _, _, lT_E so e1, e2, e3, r16 (by omega), e4, rfl⟩)
      · refine And.intro (fun z => absurd z (by show ¬ ((_ : Int32) = _); decide)) (fun _ => ?_)
        exact LRu_c hn m16 (lT_T so (lT_T e1 (l_worth e4))) (by omega) e3 hb e5
  · refine And.intro (fun z => absurd ((nI_ltI (b := 16) (by omega) (by omega)).mp z) m16) (fun _ => ?_)
    refine call0 (c_X6_at_L) rfl rfl ?_
    rintro r h' ⟨rfl, rfl⟩
    refine call0 (c_X6_fails_L) rfl rfl ?_
    rintro r h' ⟨rfl, rfl⟩
    exact And.intro (Or.inl rfl) (Or.inl ⟨rfl, 4, p, _, _, _, _, _, _, _, _, _, l_many (by rw [eh]; exact sg) (by omega), by omega, hp, r16 (by omega), hsp, rfl⟩)
set_option maxRecDepth 100000 in
theorem c_X3_readRule {l : Launch} {Txt K1 K2 K3 K4 f1 f2 : Nat → Int32} {wt rf fa sp : Int32} {b : Nat → Nat} {n p m : Nat} (hn : n ≤ 240) (hm : m ≤ 16) (hp : p ≤ n) (hb : txB Txt b n) (hsp : sR sp) : MetP l 101 yX3_readRule cX3_readRule 2 (some .boolean) 0 0 [.inr (some (.inl 0))] (lwH n Txt K1 K2 K3 K4 (nI m) wt rf (nI p) (aV b n p) fa sp f1 f2) (LRu b n Txt K4 wt rf fa p m) := by
  have hb' : ∀ i, i < n → b i ≤ 255 := fun i hi => (hb i hi).1
  refine m_X3_readRule (Nat.le_of_ble_eq_true rfl) ?_
  refine call0 (c_X6_ahead_L) rfl rfl ?_
  rintro r h' ⟨rfl, rfl⟩
  refine And.intro (fun (v : aV b n p = nI 112) => LRu_b hn hm hp hb hsp ((aV_eq hb' (by omega)).mp v) (Or.inl rfl)) (fun (v0 : ¬ aV b n p = nI 112) => ?_)
  refine And.intro (fun (v : aV b n p = nI 104) => LRu_b hn hm hp hb hsp ((aV_eq hb' (by omega)).mp v) (Or.inr (Or.inl rfl))) (fun (v1 : ¬ aV b n p = nI 104) => ?_)
  refine And.intro (fun (v : aV b n p = nI 120) => LRu_b hn hm hp hb hsp ((aV_eq hb' (by omega)).mp v) (Or.inr (Or.inr rfl))) (fun (v2 : ¬ aV b n p = nI 120) => ?_)
  refine call0 (c_X6_at_L) rfl rfl ?_
  rintro r h' ⟨rfl, rfl⟩
  refine call0 (c_X6_fails_L) rfl rfl ?_
  rintro r h' ⟨rfl, rfl⟩
  refine And.intro (Or.inl rfl) (Or.inl ⟨rfl, 1, p, _, _, _, _, _, _, _, _, _, l_norule ?_, by omega, hp, r16 hm, hsp, rfl⟩)
  rintro (y | y | y)
  · exact v0 ((aV_eq hb' (by omega)).mpr y)
  · exact v1 ((aV_eq hb' (by omega)).mpr y)
  · exact v2 ((aV_eq hb' (by omega)).mpr y)
/-- what reading leaves -/
def LRd (b : Nat → Nat) (n : Nat) (Txt K4 : Nat → Int32) (wt rf : Int32) (r : Option PV) (h' : PH) : Prop := ∃ (y : Int32) (K1 K2 K3 f1 f2 : Nat → Int32) (ru at_ ah fa sp : Int32), lwY b n y ∧ (0 ≤ ru.toInt ∧ ru.toInt ≤ 16) ∧ sR sp ∧ r = some (.inl y) ∧ h' = lwH n Txt K1 K2 K3 K4 ru wt rf at_ ah fa sp f1 f2
set_option maxRecDepth 100000 in
theorem c_X3_read {l : Launch} {Txt K1 K2 K3 K4 f1 f2 : Nat → Int32} {ru wt rf en at_ ah fa sp : Int32} {b : Nat → Nat} {n : Nat} (hn : n ≤ 240) (hb : txB Txt b n) : MetP l 102 yX3_read cX3_read 4 (some .int) 0 0 [.inr (some (.inl 0)), .inl (nI n), .inr (some (.inl 2))] [.inr (3, [.inr (some (.inl 1)), .inl en, .inl at_, .inl ah, .inl fa, .inr (some (.inl 2))]), .inl (0, 260, Txt), .inr (2, [.inr (some (.inl 3)), .inr (some (.inl 4)), .inr (some (.inl 5)), .inr (some (.inl 6)), .inr (some (.inl 7)), .inr (some (.inl 8)), .inl ru, .inl sp, .inl wt, .inl rf]), .inl (0, 16, K1), .inl (0, 16, K2), .inl (0, 16, K3), .inl (0, 280, f1), .inl (0, 280, f2), .inl (0, 24, K4)] (LRd b n Txt K4 wt rf) := by
  refine m_X3_read (fun μ L st h => ∃ (i q : Nat) (K1 K2 K3 f1 f2 : Nat → Int32) (sp : Int32), μ = 17 - i ∧ i ≤ 16 ∧ q ≤ n ∧ lT b n (0, 0, 0, 0, []) (0, 0, q, i, []) ∧ sR sp ∧ L = [some (.inr (some (.inl 0))), some (.inl (nI n)), some (.inr (some (.inl 2))), some (.inl (nI i))] ∧ st = [] ∧ h = lwH n Txt K1 K2 K3 K4 (nI i) wt rf (nI q) (aV b n q) 0 sp f1 f2) (Nat.le_of_ble_eq_true rfl) ?_ ?_
  · refine call0 (c_X6_begin_L (b := b) hn hb) rfl rfl ?_
    rintro r h' ⟨rfl, rfl⟩
    refine call0 (c_X2_clear) rfl rfl ?_
    rintro r h' ⟨rfl, rfl⟩
    exact ⟨_, 0, 0, _, _, _, _, _, 0, rfl, by omega, by omega, lT_0, by decide, rfl, rfl, rfl⟩
  · rintro μ L st h ⟨i, q, K1, K2, K3, f1, f2, sp, hμ, h1, h2, hT, hs, rfl, rfl, rfl⟩
    refine And.intro (fun z => absurd ((nI_ltI (a := 16) (by omega) (by omega)).mp z) (by omega)) (fun _ => ?_)
    refine call0 (c_X3_readRule (b := b) (n := n) (p := q) (m := i) hn h1 h2 hb hs) rfl rfl ?_
    rintro r h' (⟨rfl, g, a, K12, K22, K32, f12, f22, ru2, at2, ah2, sp2, e1, e2, e3, e4, e5, rfl⟩ | ⟨rfl, q2, K12, K22, K32, f12, f22, sp2, e1, e2, e3, e4, e5, rfl⟩)
    · refine And.intro (fun _ => ?_) (fun z => absurd rfl z)
      refine call0 (c_X6_fault_L) rfl rfl ?_
      rintro r h' ⟨rfl, rfl⟩
      exact ⟨_, _, _, _, _, _, _, _, _, _, _, Or.inl ⟨g, a, lT_E hT e1, rfl⟩, e4, e5, rfl, rfl⟩
    · refine And.intro (fun z => absurd z (by show ¬ ((_ : Int32) = _); decide)) (fun _ => ?_)
      refine call0 (c_X6_ended_L (n := n) (p := q2) hn (by omega)) rfl rfl ?_
      rintro r h' ⟨rfl, rfl⟩
      refine br_b (fun w => ?_) (fun w => ?_)
      · refine call0 (c_X6_reads_L (b := b) (n := n) (p := q2) (k := 59) hn e3 (by omega) hb) rfl rfl ?_
        rintro r h' (⟨v, rfl, rfl⟩ | ⟨v, rfl, rfl⟩)
        · have ql := hr_lt v (by omega)
          refine And.intro (fun z => absurd z (by show ¬ ((_ : Int32) = _); decide)) (fun _ => ?_)
          exact ⟨17 - (i + 1), by omega, i + 1, q2 + 1, _, _, _, _, _, _, rfl, by omega, by omega, lT_T hT (lT_T e1 (l_next v)), e5, by rw [← nI_1 i] <;> rfl, rfl, rfl⟩
        · refine And.intro (fun _ => ?_) (fun z => absurd rfl z)
          refine call0 (c_X6_fault_L) rfl rfl ?_
          rintro r h' ⟨rfl, rfl⟩
          exact ⟨_, _, _, _, _, _, _, _, _, _, _, Or.inl ⟨1, q2, lT_E hT (lT_E e1 (l_nnext w v)), rfl⟩, r16 (by omega), e5, rfl, rfl⟩
      · refine call0 (c_X2_size) rfl rfl ?_
        rintro r h' ⟨rfl, rfl⟩
        exact ⟨_, _, _, _, _, _, _, _, _, _, _, Or.inr ⟨i + 1, lT_E hT (lT_E e1 (l_end w)), rfl⟩, r16 (by omega), e5, rfl, rfl⟩
set_option maxRecDepth 100000 in
theorem c_X3_read_z {l : Launch} {Txt K1 K2 K3 K4 f1 f2 : Nat → Int32} {ru wt rf en at_ ah fa sp : Int32} {zi : List (Option Nat)} {b : Nat → Nat} {n : Nat} (hn : n ≤ 240) (hb : txB Txt b n) : MetP l 102 yX3_read cX3_read 4 (some .int) 0 0 [.inr (some (.inl 0)), .inl (nI n), .inr (some (.inl 2))] [.inr (3, [.inr (some (.inl 1)), .inl en, .inl at_, .inl ah, .inl fa, .inr (some (.inr zi))]), .inl (0, 260, Txt), .inr (2, [.inr (some (.inl 3)), .inr (some (.inl 4)), .inr (some (.inl 5)), .inr (some (.inl 6)), .inr (some (.inl 7)), .inr (some (.inl 8)), .inl ru, .inl sp, .inl wt, .inl rf]), .inl (0, 16, K1), .inl (0, 16, K2), .inl (0, 16, K3), .inl (0, 280, f1), .inl (0, 280, f2), .inl (0, 24, K4)] (LRd b n Txt K4 wt rf) := by
  refine m_X3_read (fun μ L st h => ∃ (i q : Nat) (K1 K2 K3 f1 f2 : Nat → Int32) (sp : Int32), μ = 17 - i ∧ i ≤ 16 ∧ q ≤ n ∧ lT b n (0, 0, 0, 0, []) (0, 0, q, i, []) ∧ sR sp ∧ L = [some (.inr (some (.inl 0))), some (.inl (nI n)), some (.inr (some (.inl 2))), some (.inl (nI i))] ∧ st = [] ∧ h = lwH n Txt K1 K2 K3 K4 (nI i) wt rf (nI q) (aV b n q) 0 sp f1 f2) (Nat.le_of_ble_eq_true rfl) ?_ ?_
  · refine call0 (c_X6_begin_L (b := b) hn hb) rfl rfl ?_
    rintro r h' ⟨rfl, rfl⟩
    refine call0 (c_X2_clear) rfl rfl ?_
    rintro r h' ⟨rfl, rfl⟩
    exact ⟨_, 0, 0, _, _, _, _, _, 0, rfl, by omega, by omega, lT_0, by decide, rfl, rfl, rfl⟩
  · rintro μ L st h ⟨i, q, K1, K2, K3, f1, f2, sp, hμ, h1, h2, hT, hs, rfl, rfl, rfl⟩
    refine And.intro (fun z => absurd ((nI_ltI (a := 16) (by omega) (by omega)).mp z) (by omega)) (fun _ => ?_)
    refine call0 (c_X3_readRule (b := b) (n := n) (p := q) (m := i) hn h1 h2 hb hs) rfl rfl ?_
    rintro r h' (⟨rfl, g, a, K12, K22, K32, f12, f22, ru2, at2, ah2, sp2, e1, e2, e3, e4, e5, rfl⟩ | ⟨rfl, q2, K12, K22, K32, f12, f22, sp2, e1, e2, e3, e4, e5, rfl⟩)
    · refine And.intro (fun _ => ?_) (fun z => absurd rfl z)
      refine call0 (c_X6_fault_L) rfl rfl ?_
      rintro r h' ⟨rfl, rfl⟩
      exact ⟨_, _, _, _, _, _, _, _, _, _, _, Or.inl ⟨g, a, lT_E hT e1, rfl⟩, e4, e5, rfl, rfl⟩
    · refine And.intro (fun z => absurd z (by show ¬ ((_ : Int32) = _); decide)) (fun _ => ?_)
      refine call0 (c_X6_ended_L (n := n) (p := q2) hn (by omega)) rfl rfl ?_
      rintro r h' ⟨rfl, rfl⟩
      refine br_b (fun w => ?_) (fun w => ?_)
      · refine call0 (c_X6_reads_L (b := b) (n := n) (p := q2) (k := 59) hn e3 (by omega) hb) rfl rfl ?_
        rintro r h' (⟨v, rfl, rfl⟩ | ⟨v, rfl, rfl⟩)
        · have ql := hr_lt v (by omega)
          refine And.intro (fun z => absurd z (by show ¬ ((_ : Int32) = _); decide)) (fun _ => ?_)
          exact ⟨17 - (i + 1), by omega, i + 1, q2 + 1, _, _, _, _, _, _, rfl, by omega, by omega, lT_T hT (lT_T e1 (l_next v)), e5, by rw [← nI_1 i] <;> rfl, rfl, rfl⟩
        · refine And.intro (fun _ => ?_) (fun z => absurd rfl z)
          refine call0 (c_X6_fault_L) rfl rfl ?_
          rintro r h' ⟨rfl, rfl⟩
          exact ⟨_, _, _, _, _, _, _, _, _, _, _, Or.inl ⟨1, q2, lT_E hT (lT_E e1 (l_nnext w v)), rfl⟩, r16 (by omega), e5, rfl, rfl⟩
      · refine call0 (c_X2_size) rfl rfl ?_
        rintro r h' ⟨rfl, rfl⟩
        exact ⟨_, _, _, _, _, _, _, _, _, _, _, Or.inr ⟨i + 1, lT_E hT (lT_E e1 (l_end w)), rfl⟩, r16 (by omega), e5, rfl, rfl⟩
set_option maxRecDepth 100000 in
theorem c_X11_law_S {l : Launch} {HS_republic HS_now HS_kept HS_trial HS_clerk HS_crew HS_riddles HS_sheetReader HS_postReader HS_seen HS_rules : List (Option Nat)} {HS_wasKept LR_end LR_at LR_ahead LR_fault Spare_rules Spare_steps Spare_waiting Spare_refused : Int32} {Tape_bytes Spare_kind Spare_worthAt Spare_testAt Spare_step Spare_beside Spare_stack : Nat → Int32}  {o : Nat → Nat} {n t : Nat} (hn1 : 1 ≤ n) (hn : n ≤ 240) (ht : t ≤ 260) (hnt : n ≤ t) (hb : txB Tape_bytes o n) : MetP l 103 yX11_law cX11_law 4 (some .int) 0 0 [.inr (some (.inl 0)), .inl (nI n)] [.inr (10, [.inr (some (.inl 1)), .inr (some (.inr HS_republic)), .inr (some (.inr HS_now)), .inr (some (.inr HS_kept)), .inr (some (.inr HS_trial)), .inr (some (.inr HS_clerk)), .inr (some (.inr HS_crew)), .inr (some (.inr HS_riddles)), .inr (some (.inr HS_sheetReader)), .inr (some (.inr HS_postReader)), .inr (some (.inl 3)), .inr (some (.inr HS_seen)), .inr (some (.inr HS_rules)), .inr (some (.inl 4)), .inl HS_wasKept]), .inr (9, [.inr (some (.inl 2)), .inl ((nI t))]), .inl (0, 260, Tape_bytes), .inr (3, [.inr (some (.inl 2)), .inl LR_end, .inl LR_at, .inl LR_ahead, .inl LR_fault, (.inr (some (.inl 4)))]), .inr (2, [.inr (some (.inl 5)), .inr (some (.inl 6)), .inr (some (.inl 7)), .inr (some (.inl 8)), .inr (some (.inl 9)), .inr (some (.inl 10)), .inl Spare_rules, .inl Spare_steps, .inl Spare_waiting, .inl Spare_refused]), .inl (0, 16, Spare_kind), .inl (0, 16, Spare_worthAt), .inl (0, 16, Spare_testAt), .inl (0, 280, Spare_step), .inl (0, 280, Spare_beside), .inl (0, 24, Spare_stack)] (fun r h' => ∃ (y : Int32) (K1 K2 K3 f1 f2 : Nat → Int32) (ru at_ ah fa sp : Int32), lwY o n y ∧ (0 ≤ ru.toInt ∧ ru.toInt ≤ 16) ∧ sR sp ∧ r = some (.inl y) ∧ ((y < 0 ∧ h' = [.inr (10, [.inr (some (.inl 1)), .inr (some (.inr HS_republic)), .inr (some (.inr HS_now)), .inr (some (.inr HS_kept)), .inr (some (.inr HS_trial)), .inr (some (.inr HS_clerk)), .inr (some (.inr HS_crew)), .inr (some (.inr HS_riddles)), .inr (some (.inr HS_sheetReader)), .inr (some (.inr HS_postReader)), .inr (some (.inl 3)), .inr (some (.inr HS_seen)), .inr (some (.inr HS_rules)), .inr (some (.inl 4)), .inl HS_wasKept]), .inr (9, [.inr (some (.inl 2)), .inl 0]), .inl (0, 260, Tape_bytes), .inr (3, [.inr (some (.inl 2)), .inl ((nI n)), .inl at_, .inl ah, .inl fa, (.inr (some (.inl 4)))]), .inr (2, [.inr (some (.inl 5)), .inr (some (.inl 6)), .inr (some (.inl 7)), .inr (some (.inl 8)), .inr (some (.inl 9)), .inr (some (.inl 10)), .inl ru, .inl sp, .inl Spare_waiting, .inl Spare_refused]), .inl (0, 16, K1), .inl (0, 16, K2), .inl (0, 16, K3), .inl (0, 280, f1), .inl (0, 280, f2), .inl (0, 24, Spare_stack)]) ∨ (¬ y < 0 ∧ h' = [.inr (10, [.inr (some (.inl 1)), .inr (some (.inr HS_republic)), .inr (some (.inr HS_now)), .inr (some (.inr HS_kept)), .inr (some (.inr HS_trial)), .inr (some (.inr HS_clerk)), .inr (some (.inr HS_crew)), .inr (some (.inr HS_riddles)), .inr (some (.inr HS_sheetReader)), .inr (some (.inr HS_postReader)), .inr (some (.inl 3)), .inr (some (.inr HS_seen)), (.inr (some (.inl 4))), (.inr (some (.inr HS_rules))), .inl HS_wasKept]), .inr (9, [.inr (some (.inl 2)), .inl 0]), .inl (0, 260, Tape_bytes), .inr (3, [.inr (some (.inl 2)), .inl ((nI n)), .inl at_, .inl ah, .inl fa, (.inr (some (.inl 4)))]), .inr (2, [.inr (some (.inl 5)), .inr (some (.inl 6)), .inr (some (.inl 7)), .inr (some (.inl 8)), .inr (some (.inl 9)), .inr (some (.inl 10)), .inl ru, .inl sp, .inl Spare_waiting, .inl Spare_refused]), .inl (0, 16, K1), .inl (0, 16, K2), .inl (0, 16, K3), .inl (0, 280, f1), .inl (0, 280, f2), .inl (0, 24, Spare_stack)]))) := by
  refine m_X11_law (Nat.le_of_ble_eq_true rfl) ?_
  refine call0 (c_canGive) rfl rfl ?_
  rintro r h' ⟨rfl, rfl⟩
  refine br_b (fun z => absurd ⟨(nI_bt (a := 1) (b := 240) (by omega) (by omega) (by omega)).mpr ⟨hn1, hn⟩, (nI_leI (by omega) (by omega)).mpr hnt⟩ z) (fun _ => ?_)
  refine call0 (c_X3_read (b := o) (n := n) hn hb) rfl rfl ?_
  rintro r h' ⟨y, K1, K2, K3, f1, f2, ru, at_, ah, fa, sp, hy, hru, hsp, rfl, rfl⟩
  refine call0 (c_X10_empty) rfl rfl ?_
  rintro r h' ⟨rfl, rfl⟩
  refine And.intro (fun (w : y < 0) => ?_) (fun (w : ¬ y < 0) => ?_)
  · exact ⟨y, K1, K2, K3, f1, f2, ru, at_, ah, fa, sp, hy, hru, hsp, rfl, Or.inl ⟨w, rfl⟩⟩
  · exact ⟨y, K1, K2, K3, f1, f2, ru, at_, ah, fa, sp, hy, hru, hsp, rfl, Or.inr ⟨w, rfl⟩⟩
set_option maxRecDepth 100000 in
theorem c_X11_law_R {l : Launch} {HS_republic HS_now HS_kept HS_trial HS_clerk HS_crew HS_riddles HS_sheetReader HS_postReader HS_seen HS_rules LR_into : List (Option Nat)} {HS_wasKept LR_end LR_at LR_ahead LR_fault Spare_rules Spare_steps Spare_waiting Spare_refused : Int32} {Tape_bytes Spare_kind Spare_worthAt Spare_testAt Spare_step Spare_beside Spare_stack : Nat → Int32}  {o : Nat → Nat} {n t : Nat} (hn1 : 1 ≤ n) (hn : n ≤ 240) (ht : t ≤ 260) (hnt : n ≤ t) (hb : txB Tape_bytes o n) : MetP l 103 yX11_law cX11_law 4 (some .int) 0 0 [.inr (some (.inl 0)), .inl (nI n)] [.inr (10, [.inr (some (.inl 1)), .inr (some (.inr HS_republic)), .inr (some (.inr HS_now)), .inr (some (.inr HS_kept)), .inr (some (.inr HS_trial)), .inr (some (.inr HS_clerk)), .inr (some (.inr HS_crew)), .inr (some (.inr HS_riddles)), .inr (some (.inr HS_sheetReader)), .inr (some (.inr HS_postReader)), .inr (some (.inl 3)), .inr (some (.inr HS_seen)), .inr (some (.inr HS_rules)), .inr (some (.inl 4)), .inl HS_wasKept]), .inr (9, [.inr (some (.inl 2)), .inl ((nI t))]), .inl (0, 260, Tape_bytes), .inr (3, [.inr (some (.inl 2)), .inl LR_end, .inl LR_at, .inl LR_ahead, .inl LR_fault, .inr (some (.inr LR_into))]), .inr (2, [.inr (some (.inl 5)), .inr (some (.inl 6)), .inr (some (.inl 7)), .inr (some (.inl 8)), .inr (some (.inl 9)), .inr (some (.inl 10)), .inl Spare_rules, .inl Spare_steps, .inl Spare_waiting, .inl Spare_refused]), .inl (0, 16, Spare_kind), .inl (0, 16, Spare_worthAt), .inl (0, 16, Spare_testAt), .inl (0, 280, Spare_step), .inl (0, 280, Spare_beside), .inl (0, 24, Spare_stack)] (fun r h' => ∃ (y : Int32) (K1 K2 K3 f1 f2 : Nat → Int32) (ru at_ ah fa sp : Int32), lwY o n y ∧ (0 ≤ ru.toInt ∧ ru.toInt ≤ 16) ∧ sR sp ∧ r = some (.inl y) ∧ ((y < 0 ∧ h' = [.inr (10, [.inr (some (.inl 1)), .inr (some (.inr HS_republic)), .inr (some (.inr HS_now)), .inr (some (.inr HS_kept)), .inr (some (.inr HS_trial)), .inr (some (.inr HS_clerk)), .inr (some (.inr HS_crew)), .inr (some (.inr HS_riddles)), .inr (some (.inr HS_sheetReader)), .inr (some (.inr HS_postReader)), .inr (some (.inl 3)), .inr (some (.inr HS_seen)), .inr (some (.inr HS_rules)), .inr (some (.inl 4)), .inl HS_wasKept]), .inr (9, [.inr (some (.inl 2)), .inl 0]), .inl (0, 260, Tape_bytes), .inr (3, [.inr (some (.inl 2)), .inl ((nI n)), .inl at_, .inl ah, .inl fa, (.inr (some (.inl 4)))]), .inr (2, [.inr (some (.inl 5)), .inr (some (.inl 6)), .inr (some (.inl 7)), .inr (some (.inl 8)), .inr (some (.inl 9)), .inr (some (.inl 10)), .inl ru, .inl sp, .inl Spare_waiting, .inl Spare_refused]), .inl (0, 16, K1), .inl (0, 16, K2), .inl (0, 16, K3), .inl (0, 280, f1), .inl (0, 280, f2), .inl (0, 24, Spare_stack)]) ∨ (¬ y < 0 ∧ h' = [.inr (10, [.inr (some (.inl 1)), .inr (some (.inr HS_republic)), .inr (some (.inr HS_now)), .inr (some (.inr HS_kept)), .inr (some (.inr HS_trial)), .inr (some (.inr HS_clerk)), .inr (some (.inr HS_crew)), .inr (some (.inr HS_riddles)), .inr (some (.inr HS_sheetReader)), .inr (some (.inr HS_postReader)), .inr (some (.inl 3)), .inr (some (.inr HS_seen)), (.inr (some (.inl 4))), (.inr (some (.inr HS_rules))), .inl HS_wasKept]), .inr (9, [.inr (some (.inl 2)), .inl 0]), .inl (0, 260, Tape_bytes), .inr (3, [.inr (some (.inl 2)), .inl ((nI n)), .inl at_, .inl ah, .inl fa, (.inr (some (.inl 4)))]), .inr (2, [.inr (some (.inl 5)), .inr (some (.inl 6)), .inr (some (.inl 7)), .inr (some (.inl 8)), .inr (some (.inl 9)), .inr (some (.inl 10)), .inl ru, .inl sp, .inl Spare_waiting, .inl Spare_refused]), .inl (0, 16, K1), .inl (0, 16, K2), .inl (0, 16, K3), .inl (0, 280, f1), .inl (0, 280, f2), .inl (0, 24, Spare_stack)]))) := by
  refine m_X11_law (Nat.le_of_ble_eq_true rfl) ?_
  refine call0 (c_canGive) rfl rfl ?_
  rintro r h' ⟨rfl, rfl⟩
  refine br_b (fun z => absurd ⟨(nI_bt (a := 1) (b := 240) (by omega) (by omega) (by omega)).mpr ⟨hn1, hn⟩, (nI_leI (by omega) (by omega)).mpr hnt⟩ z) (fun _ => ?_)
  refine call0 (c_X3_read_z (b := o) (n := n) hn hb) rfl rfl ?_
  rintro r h' ⟨y, K1, K2, K3, f1, f2, ru, at_, ah, fa, sp, hy, hru, hsp, rfl, rfl⟩
  refine call0 (c_X10_empty) rfl rfl ?_
  rintro r h' ⟨rfl, rfl⟩
  refine And.intro (fun (w : y < 0) => ?_) (fun (w : ¬ y < 0) => ?_)
  · exact ⟨y, K1, K2, K3, f1, f2, ru, at_, ah, fa, sp, hy, hru, hsp, rfl, Or.inl ⟨w, rfl⟩⟩
  · exact ⟨y, K1, K2, K3, f1, f2, ru, at_, ah, fa, sp, hy, hru, hsp, rfl, Or.inr ⟨w, rfl⟩⟩

