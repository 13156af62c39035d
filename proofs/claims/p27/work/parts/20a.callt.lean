/-! ===== calls from the law ===== -/
def subT (T : List AV × List AC) (σ : Sg) : Bool := all2b (leA σ.1) T.1 σ.2.2.2.1 && all2b (leC σ.1) T.2 σ.2.2.2.2
def anyT (Ts : List (List AV × List AC)) (σ : Sg) : Bool := match Ts with
  | [] => false
  | T :: r => subT T σ || anyT r σ
theorem anyT_ok {σ : Sg} : ∀ {Ts : List (List AV × List AC)}, anyT Ts σ = true → ∃ T, T ∈ Ts ∧ subT T σ = true
  | [], h => by cases h
  | T :: r, h => by
    unfold anyT at h
    rw [Bool.or_eq_true] at h
    rcases h with h | h
    · exact ⟨T, List.mem_cons_self, h⟩
    · obtain ⟨T', h1, h2⟩ := anyT_ok h
      exact ⟨T', List.mem_cons_of_mem _ h1, h2⟩
theorem callT {τ : Nat → List (Option Nat)} {M : List PV → PH → (Option PV → PH → Prop) → Prop} {C : Con} {rc : Option Nat} {n : Nat} {ρs : List Nat} {tm : List AV} {A : List AV} {H : List AC} {Ts : List (List AV × List AC)} {k : Blk} {L : PL} {st : List PV} {h : PH} (hΦ : Φ τ) (hC : conOk M C) (hst : all2 (gV ρ0 τ) A st) (hh : all2 (gC ρ0 τ) H h) (hc : a_call C rc n ρs tm (anyT Ts) ([], (0, []), [], A, H) = true) (hk : ∀ T, T ∈ Ts → ∀ st h, all2 (gV ρ0 τ) T.1 st → all2 (gC ρ0 τ) T.2 h → k L st h) : o_call M rc n ρs k L st h := by
  have q := s_call (τ := τ) (m0 := 0) (K := anyT Ts) (k := fun _ st h => k L st h) hΦ hC (fun σ hσ ρ L' st' h' hS => by
    obtain ⟨T, hT, hs⟩ := anyT_ok hσ
    unfold subT at hs
    rw [Bool.and_eq_true] at hs
    obtain ⟨hG, hF, g1, g2, g3⟩ := hS
    exact hk T hT st' h' (all2b_imp (leA_ok hG) hs.1 g2) (all2b_imp (leC_ok hG) hs.2 g3)) _ hc ρ0 [] st h ⟨fun _ _ _ e => (by cases e), rfl, trivial, hst, hh⟩
  exact q
/-! a call that keeps other exact arrays behind it -/
def kT (t : Nat) : Bool := !Nat.ble 100 t || Nat.ble 201 t
theorem kT_hi {t : Nat} (h : Nat.ble 1000 t = true) : kT (t / 4) = true := by
  unfold kT
  rw [Bool.or_eq_true]
  exact Or.inr (Nat.ble_eq.mpr (by have := Nat.ble_eq.mp h; omega))
theorem kT_h6 {t : Nat} (h : Nat.ble 600 t = true) : kT (t - 392) = true := by
  unfold kT
  rw [Bool.or_eq_true]
  exact Or.inr (Nat.ble_eq.mpr (by have := Nat.ble_eq.mp h; omega))
def wkA (a : AV) : AV := match a with
  | .inr (.inr (some (.inr t))) => match Nat.beq t 200 with
    | true => topA
    | false => a
  | a => a
def wkC (c : AC) : AC := match c with
  | .inl (t, n, lo, hi) => match Nat.beq t 5 with
    | true => .inl (0, n, -2147483648, 2147483647)
    | false => .inl (t, n, lo, hi)
  | .inr (ci, fs) => .inr (ci, fs.map wkA)
def okwA (a : AV) : Bool := match a with
  | .inr (.inr (some (.inr t))) => Nat.ble 200 t || !Nat.ble 100 t
  | _ => true
def okw (c : AC) : Bool := match c with
  | .inl _ => true
  | .inr (_, fs) => fs.all okwA
theorem wkA_ok {ρ : Nat → Int} {τ τ' : Nat → List (Option Nat)} (e : ∀ t, kT t = true → τ' t = τ t) (a : AV) (v : PV) (ho : okwA a = true) (h : gV ρ τ a v) : gV ρ τ' (wkA a) v := by
  rcases a with ⟨l, u⟩ | ⟨k, d⟩ | _ | a | t
  · exact h
  · exact h
  · exact h
  · exact h
  · have ho : (Nat.ble 200 t || !Nat.ble 100 t) = true := ho
    unfold wkA
    dsimp only
    split
    · rename_i h2
      cases Nat.eq_of_beq_eq_true h2
      rw [gT_i (τ := τ) (t := 200) rfl h]
      exact topA_ok _
    · rename_i h2
      refine gT_to (e t ?_) h
      unfold kT
      rw [Bool.or_eq_true] at ho ⊢
      rcases ho with ho | ho
      · refine Or.inr (Nat.ble_eq.mpr ?_)
        have h3 := Nat.ble_eq.mp ho
        have h4 : t ≠ 200 := fun z => by subst z; cases h2
        omega
      · exact Or.inl ho
theorem wkC_ok {ρ : Nat → Int} {τ τ' : Nat → List (Option Nat)} (e : ∀ t, kT t = true → τ' t = τ t) (a : AC) (v : PE) (ho : okw a = true) (h : gC ρ τ a v) : gC ρ τ' (wkC a) v := by
  rcases a with ⟨t, n, lo, hi⟩ | ⟨ci, fs⟩
  · rcases v with ⟨t', n', f⟩ | ⟨ci', fs'⟩
    · unfold wkC
      dsimp only
      split
      · rename_i h5
        cases Nat.eq_of_beq_eq_true h5
        exact ⟨h.1, h.2.1, fun i hi => ⟨fun _ => ⟨i32lo _, i32hi _⟩, fun z => (by cases z), fun z => (by cases z)⟩⟩
      · rename_i h5
        exact ⟨h.1, h.2.1, fun i hi => ⟨(h.2.2 i hi).1, fun z => (by subst z; cases h5), fun z => g3_to (fun ek => e _ (kT_hi ek)) (fun ek => e _ (kT_h6 ek)) ((h.2.2 i hi).2.2 z)⟩⟩
    · exact h.elim
  · rcases v with ⟨t', n', f⟩ | ⟨ci', fs'⟩
    · exact h.elim
    · refine ⟨h.1, ?_⟩
      have ho : fs.all okwA = true := ho
      have h2 : all2 (gV ρ τ) fs fs' := h.2
      clear h
      induction fs generalizing fs' with
      | nil =>
        cases fs' with
        | nil => trivial
        | cons _ _ => exact h2.elim
      | cons a fs ih =>
        cases fs' with
        | nil => exact h2.elim
        | cons b fs' =>
          rw [List.all_cons, Bool.and_eq_true] at ho
          exact ⟨wkA_ok e a b ho.1 h2.1, ih ho.2 fs' ho.2 h2.2⟩
theorem wkH_ok {ρ : Nat → Int} {τ τ' : Nat → List (Option Nat)} (e : ∀ t, kT t = true → τ' t = τ t) : ∀ {H : List AC} {h : PH}, H.all okw = true → all2 (gC ρ τ) H h → all2 (gC ρ τ') (H.map wkC) h
  | [], [], _, _ => trivial
  | [], _ :: _, _, h => h.elim
  | _ :: _, [], _, h => h.elim
  | a :: H, b :: h, ho, hh => by
    rw [List.all_cons, Bool.and_eq_true] at ho
    exact ⟨wkC_ok e a b ho.1 hh.1, wkH_ok e ho.2 hh.2⟩
def conOkL (M : List PV → PH → (Option PV → PH → Prop) → Prop) (A : List AV) (H H2 : List AC) : Prop := ∀ (τ : Nat → List (Option Nat)), Φ τ → ∀ (as : List PV) (h : PH), all2 (gV ρ0 τ) A as → all2 (gC ρ0 τ) H h → M as h (fun r h' => ∃ τ' : Nat → List (Option Nat), Φ τ' ∧ (∀ t, kT t = true → τ' t = τ t) ∧ (∃ y : Int32, r = some (.inl y)) ∧ all2 (gC ρ0 τ') H2 h')
def tokB (tm : List AV) : Bool := tm.all (fun a => match a with
  | .inr (.inr (some (.inr u))) => !Nat.ble 100 u
  | _ => true)
theorem tau2 {τ τ' τ2 : Nat → List (Option Nat)} {tm : List AV} (h1 : ∀ t, Nat.ble 100 t = false → τ' t = tauC τ tm t) (e1 : ∀ t, Nat.ble 100 t = true → τ2 t = τ' t) (e2 : ∀ t, Nat.ble 100 t = false → τ2 t = τ t) (hb : tokB tm = true) : tauC τ2 tm = τ' := by
  funext t
  cases ht : Nat.ble 100 t
  · rw [h1 t ht, tauC_lo ht, tauC_lo ht]
    split
    · rfl
    · rename_i u hu
      have hm : (.inr (.inr (some (.inr u))) : AV) ∈ tm := by
        rw [nth_eq] at hu
        exact List.mem_of_getElem? hu
      have := List.all_eq_true.mp hb _ hm
      have this : (!Nat.ble 100 u) = true := this
      rw [Bool.not_eq_true'] at this
      rw [e2 u this]
    · rfl
  · rw [tauC_hi ht, e1 t ht]
def subH (H2 : List AC) (x : Option (List AC)) : Bool := match x with
  | some H3 => all2b (leC ([] : List (Int × Int))) H2 H3
  | none => false
theorem subH_ok {H2 : List AC} {x : Option (List AC)} (h : subH H2 x = true) : ∃ H3, x = some H3 ∧ all2b (leC ([] : List (Int × Int))) H2 H3 = true := by
  cases x with
  | none => cases h
  | some H3 => exact ⟨H3, rfl, h⟩
theorem callL {τ : Nat → List (Option Nat)} {M : List PV → PH → (Option PV → PH → Prop) → Prop} {B : List AV} {C C' : List AC} {ci n : Nat} {ρs : List Nat} {tm : List AV} {A as : List AV} {H H2 : List AC} {k : Blk} {L : PL} {st : List PV} {h : PH} (hΦ : Φ τ) (hC : conOkL M B C C') (hst : all2 (gV ρ0 τ) A st) (hh : all2 (gC ρ0 τ) H h) (hp : popA n A [] = some (as, [])) (hok : H.all okw = true) (hb : tokB tm = true) (hw : subH H2 (wbA ρs tm ρs C' (H.map wkC)) = true) (hc : ((rcA (some ci) as H && (Nat.ble ρs.length 1000 && Nat.ble H.length 1000 && va_nd ρs)) && (all2b (mA [] ρs tm) B as && mH [] ρs tm H C ρs)) = true) (hk : ∀ τ2 : Nat → List (Option Nat), Φ τ2 → (∀ t, kT t = true → τ2 t = τ t) → ∀ (y : Int32) h2, all2 (gC ρ0 τ2) H2 h2 → k L [.inl y] h2) : o_call M (some ci) n ρs k L st h := by
  have hG : gG ρ0 ([] : List (Int × Int)) := fun _ _ _ e => by cases e
  obtain ⟨H3, hw, hw2⟩ := subH_ok hw
  simp only [Bool.and_eq_true] at hc
  obtain ⟨⟨g1, ⟨g2, g2'⟩, g3⟩, g4, g5⟩ := hc
  unfold o_call
  refine pop_in n A [] st [] hp hst trivial (fun as' rest ha hr => ?_)
  cases rest with
  | cons _ _ => exact hr.elim
  | nil =>
    have body : (Nat.ble ([] : List PV).length 8 && Nat.ble ρs.length 1000 && Nat.ble h.length 1000) = true ∧ va_nd ρs = true ∧ pick ρs h ρs (fun hc => unL ρs as' (fun as' => ∃ post : Option PV → PH → Prop, M as' hc post ∧ ∀ (r : Option PV) (h' : PH), post r h' → wbK ρs 0 h.length ρs h' h (fun h2 => match r with
      | none => k L [] h2
      | some v => reK ρs 0 h.length v (fun v' => k L (v' :: []) h2)))) := by
      refine ⟨by rw [all2_len hh, g2, g2']; rfl, g3, pick_in hG hh g5 (fun hc hhc => ?_)⟩
      rw [unL_eq]
      refine ⟨_, hC (tauC τ tm) (Φ_tau hΦ) (as'.map (un1 ρs)) hc (all2b_map (mA_ok hG) g4 ha) hhc, fun r' h' hpost => ?_⟩
      obtain ⟨τ', p1, p2, ⟨y, rfl⟩, p4⟩ := hpost
      have p2' : ∀ t, Nat.ble 100 t = false → τ' t = tauC τ tm t := fun t ht => p2 t (by unfold kT; rw [ht]; rfl)
      have et : tauC (fun t => match Nat.ble 100 t with | true => τ' t | false => τ t) tm = τ' := tau2 p2' (fun t ht => by rw [ht]) (fun t ht => by rw [ht]) hb
      rw [← et] at p4
      have p1' : Φ (fun t => match Nat.ble 100 t with | true => τ' t | false => τ t) := p1
      have p3' : ∀ t, kT t = true → (fun t => match Nat.ble 100 t with | true => τ' t | false => τ t) t = τ t := fun t ht => by
        dsimp only
        cases h1 : Nat.ble 100 t
        · rfl
        · exact (p2 t ht).trans (tauC_hi h1)
      refine wb_in ρs C' (H.map wkC) H3 h' h _ hw p4 (wkH_ok p3' hok hh) (fun h2' hh2 => ?_)
      exact hk _ p1' p3' y h2' (all2b_imp (leC_ok hG) hw2 hh2)
    unfold rcA at g1
    dsimp only at g1
    split at g1
    · rename_i a as1
      split at g1
      · rename_i cj fs ecell
        obtain ⟨v, as2, rfl, hv, _⟩ := all2_cons ha
        cases (hv : v = .inr (some (.inl a)))
        obtain ⟨e, he, hge⟩ := all2_nth hh ecell
        rcases e with ⟨t', n', f⟩ | ⟨ci', fs'⟩
        · exact hge.elim
        · obtain ⟨rfl, _⟩ := hge
          unfold rcK
          dsimp only
          rw [he]
          dsimp only
          rw [g1]
          exact body
      · cases g1
    · cases g1

/-! ===== one number told anew ===== -/
def mvV (k : Nat) (c : Int) (e a : AV) : Bool := match e with
  | .inr (.inr (some (.inr t))) => match Nat.beq t k with
    | true => (match a with
      | .inl (lo, hi) => ieq lo c && ieq hi c
      | _ => false)
    | false => leA ([] : List (Int × Int)) e a
  | e => leA ([] : List (Int × Int)) e a
def mvC (k : Nat) (c : Int) (e a : AC) : Bool := match e, a with
  | .inl (t, n, lo, hi), .inl _ => leC ([] : List (Int × Int)) e a && ((!Nat.beq t 5 || !Nat.beq lo.toNat k) && Nat.ble k 207)
  | .inr (ci, fs), .inr (cj, gs) => Nat.beq ci cj && all2b (mvV k c) fs gs
  | _, _ => false
theorem mvV_ok {τ τ' : Nat → List (Option Nat)} {k : Nat} {c : Int} (hk : Nat.ble 200 k = true) (h1 : ∀ t, t ≠ k → τ' t = τ t) (h2 : (decA (τ' k) 0).toInt = c) (h3 : (rT k).1 ≤ c ∧ c ≤ (rT k).2) (e a : AV) (v : PV) (h : mvV k c e a = true) (hv : gV ρ0 τ a v) : gV ρ0 τ' e v := by
  have hG : gG ρ0 ([] : List (Int × Int)) := fun _ _ _ e => by cases e
  rcases e with ⟨l, u⟩ | ⟨q, d⟩ | _ | i | t
  · exact leA_ok (τ := τ) hG (.inl (l, u)) a v h hv
  · cases h
  · exact leA_ok (τ := τ) hG (.inr (.inr none)) a v h hv
  · exact leA_ok (τ := τ) hG (.inr (.inr (some (.inl i)))) a v h hv
  · unfold mvV at h
    dsimp only at h
    split at h
    · rename_i ht
      cases Nat.eq_of_beq_eq_true ht
      split at h
      · rename_i lo hi
        unfold ieq at h
        simp only [Bool.and_eq_true, decide_eq_true_eq] at h
        obtain ⟨x, rfl, x1, x2⟩ := hv
        exact gT_mk hk (i32eq.mpr (by omega)) ⟨by omega, by omega⟩
      · cases h
    · rename_i ht
      have q := leA_ok (τ := τ) hG _ a v h hv
      exact gT_to (h1 t (fun z => by subst z; rw [Nat.beq_refl] at ht; cases ht)) q
theorem mvC_ok {τ τ' : Nat → List (Option Nat)} {k : Nat} {c : Int} (hk : Nat.ble 200 k = true) (h1 : ∀ t, t ≠ k → τ' t = τ t) (h2 : (decA (τ' k) 0).toInt = c) (h3 : (rT k).1 ≤ c ∧ c ≤ (rT k).2) (e a : AC) (v : PE) (h : mvC k c e a = true) (hv : gC ρ0 τ a v) : gC ρ0 τ' e v := by
  have hG : gG ρ0 ([] : List (Int × Int)) := fun _ _ _ e => by cases e
  rcases e with ⟨t, n, lo, hi⟩ | ⟨ci, fs⟩ <;> rcases a with ⟨t2, n2, lo2, hi2⟩ | ⟨cj, gs⟩
  · have h : (leC ([] : List (Int × Int)) (.inl (t, n, lo, hi)) (.inl (t2, n2, lo2, hi2)) && ((!Nat.beq t 5 || !Nat.beq lo.toNat k) && Nat.ble k 207)) = true := h
    rw [Bool.and_eq_true, Bool.and_eq_true] at h
    have k9 := Nat.ble_eq.mp h.2.2
    have q := leC_ok (τ := τ) hG _ _ v h.1 hv
    rcases v with ⟨t', n', f⟩ | ⟨ci', fs'⟩
    · refine ⟨q.1, q.2.1, fun i hi => ⟨(q.2.2 i hi).1, fun z => ?_, fun z => g3_to (fun ek => h1 _ (by have := Nat.ble_eq.mp ek; omega)) (fun ek => h1 _ (by have := Nat.ble_eq.mp ek; omega)) ((q.2.2 i hi).2.2 z)⟩⟩
      have r := (q.2.2 i hi).2.1 z
      subst z
      have g : (!Nat.beq lo.toNat k) = true := h.2.1
      rw [Bool.not_eq_true'] at g
      rw [r, h1 lo.toNat (fun z => by rw [z, Nat.beq_refl] at g; cases g)]
    · exact q.elim
  · cases h
  · cases h
  · have h : (Nat.beq ci cj && all2b (mvV k c) fs gs) = true := h
    rw [Bool.and_eq_true] at h
    rcases v with ⟨t', n', f⟩ | ⟨ci', fs'⟩
    · exact hv.elim
    · exact ⟨hv.1.trans (Nat.eq_of_beq_eq_true h.1).symm, all2b_imp (mvV_ok hk h1 h2 h3) h.2 hv.2⟩
theorem mvH {τ τ' : Nat → List (Option Nat)} {k : Nat} {c : Int} {E A : List AC} {h : PH} (hk : Nat.ble 200 k = true) (h1 : ∀ t, t ≠ k → τ' t = τ t) (h2 : (decA (τ' k) 0).toInt = c) (h3 : (rT k).1 ≤ c ∧ c ≤ (rT k).2) (hb : all2b (mvC k c) E A = true) (hh : all2 (gC ρ0 τ) A h) : all2 (gC ρ0 τ') E h := all2b_imp (mvC_ok hk h1 h2 h3) hb hh
/-- the other way: a number that is known -/
def fxV (k : Nat) (c : Int) (e a : AV) : Bool := match a with
  | .inr (.inr (some (.inr t))) => match Nat.beq t k with
    | true => (match e with
      | .inl (lo, hi) => ile lo c && ile c hi
      | e => leA ([] : List (Int × Int)) e a)
    | false => leA ([] : List (Int × Int)) e a
  | a => leA ([] : List (Int × Int)) e a
def fxC (k : Nat) (c : Int) (e a : AC) : Bool := match e, a with
  | .inl _, .inl _ => leC ([] : List (Int × Int)) e a
  | .inr (ci, fs), .inr (cj, gs) => Nat.beq ci cj && all2b (fxV k c) fs gs
  | _, _ => false
theorem fxV_ok {τ : Nat → List (Option Nat)} {k : Nat} {c : Int} (hk : Nat.ble 200 k = true) (h2 : (decA (τ k) 0).toInt = c) (e a : AV) (v : PV) (h : fxV k c e a = true) (hv : gV ρ0 τ a v) : gV ρ0 τ e v := by
  have hG : gG ρ0 ([] : List (Int × Int)) := fun _ _ _ e => by cases e
  rcases a with ⟨l, u⟩ | ⟨q, d⟩ | _ | i | t
  · exact leA_ok (τ := τ) hG _ _ v h hv
  · exact leA_ok (τ := τ) hG _ _ v h hv
  · exact leA_ok (τ := τ) hG _ _ v h hv
  · exact leA_ok (τ := τ) hG _ _ v h hv
  · unfold fxV at h
    dsimp only at h
    split at h
    · rename_i ht
      cases Nat.eq_of_beq_eq_true ht
      split at h
      · rename_i lo hi
        unfold ile at h
        simp only [Bool.and_eq_true, decide_eq_true_eq] at h
        refine ⟨_, gT_i hk hv, ?_, ?_⟩ <;> omega
      · exact leA_ok (τ := τ) hG _ _ v h hv
    · exact leA_ok (τ := τ) hG _ _ v h hv
theorem fxC_ok {τ : Nat → List (Option Nat)} {k : Nat} {c : Int} (hk : Nat.ble 200 k = true) (h2 : (decA (τ k) 0).toInt = c) (e a : AC) (v : PE) (h : fxC k c e a = true) (hv : gC ρ0 τ a v) : gC ρ0 τ e v := by
  have hG : gG ρ0 ([] : List (Int × Int)) := fun _ _ _ e => by cases e
  rcases e with ⟨t, n, lo, hi⟩ | ⟨ci, fs⟩ <;> rcases a with ⟨t2, n2, lo2, hi2⟩ | ⟨cj, gs⟩
  · exact leC_ok (τ := τ) hG (.inl (t, n, lo, hi)) (.inl (t2, n2, lo2, hi2)) v h hv
  · cases h
  · cases h
  · have h : (Nat.beq ci cj && all2b (fxV k c) fs gs) = true := h
    rw [Bool.and_eq_true] at h
    rcases v with ⟨t', n', f⟩ | ⟨ci', fs'⟩
    · exact hv.elim
    · exact ⟨hv.1.trans (Nat.eq_of_beq_eq_true h.1).symm, all2b_imp (fxV_ok hk h2) h.2 hv.2⟩
theorem fxH {τ : Nat → List (Option Nat)} {k : Nat} {c : Int} {E A : List AC} {h : PH} (hk : Nat.ble 200 k = true) (h2 : (decA (τ k) 0).toInt = c) (hb : all2b (fxC k c) E A = true) (hh : all2 (gC ρ0 τ) A h) : all2 (gC ρ0 τ) E h := all2b_imp (fxC_ok hk h2) hb hh
def upT (τ : Nat → List (Option Nat)) (k : Nat) (c : Nat) (t : Nat) : List (Option Nat) := match Nat.beq t k with
  | true => [some c]
  | false => τ t
theorem upT_ne {τ : Nat → List (Option Nat)} {k c t : Nat} (h : t ≠ k) : upT τ k c t = τ t := by
  unfold upT
  cases e : Nat.beq t k
  · rfl
  · exact absurd (Nat.eq_of_beq_eq_true e) h
theorem upT_at {τ : Nat → List (Option Nat)} {k c : Nat} : decA (upT τ k c k) 0 = Int32.ofNat c := by
  unfold upT
  rw [Nat.beq_refl]
  rfl
/-- what a kept number is -/
theorem tokR {τ : Nat → List (Option Nat)} {H : List AC} {h : PH} {i j : Nat} {ci : Nat} {fs : List AV} {t : Nat} (hh : all2 (gC ρ0 τ) H h) (e1 : nth H i = some (.inr (ci, fs))) (e2 : nth fs j = some (.inr (.inr (some (.inr t))))) (ht : Nat.ble 200 t = true) : (rT t).1 ≤ (decA (τ t) 0).toInt ∧ (decA (τ t) 0).toInt ≤ (rT t).2 := by
  obtain ⟨e, _, g⟩ := all2_nth hh e1
  rcases e with ⟨t', n', f⟩ | ⟨ci', fs'⟩
  · exact g.elim
  · obtain ⟨v, _, g2⟩ := all2_nth g.2 e2
    exact (gT_p ht g2).2
/-- a number that is known to lie in a range -/
def fyV (k : Nat) (c d : Int) (e a : AV) : Bool := match a with
  | .inr (.inr (some (.inr t))) => match Nat.beq t k with
    | true => (match e with
      | .inl (lo, hi) => ile lo c && ile d hi
      | e => leA ([] : List (Int × Int)) e a)
    | false => leA ([] : List (Int × Int)) e a
  | a => leA ([] : List (Int × Int)) e a
def fyC (k : Nat) (c d : Int) (e a : AC) : Bool := match e, a with
  | .inl _, .inl _ => leC ([] : List (Int × Int)) e a
  | .inr (ci, fs), .inr (cj, gs) => Nat.beq ci cj && all2b (fyV k c d) fs gs
  | _, _ => false
theorem fyV_ok {τ : Nat → List (Option Nat)} {k : Nat} {c d : Int} (hk : Nat.ble 200 k = true) (h1 : c ≤ (decA (τ k) 0).toInt) (h2 : (decA (τ k) 0).toInt ≤ d) (e a : AV) (v : PV) (h : fyV k c d e a = true) (hv : gV ρ0 τ a v) : gV ρ0 τ e v := by
  have hG : gG ρ0 ([] : List (Int × Int)) := fun _ _ _ e => by cases e
  rcases a with ⟨l, u⟩ | ⟨q, d⟩ | _ | i | t
  · exact leA_ok (τ := τ) hG _ _ v h hv
  · exact leA_ok (τ := τ) hG _ _ v h hv
  · exact leA_ok (τ := τ) hG _ _ v h hv
  · exact leA_ok (τ := τ) hG _ _ v h hv
  · unfold fyV at h
    dsimp only at h
    split at h
    · rename_i ht
      cases Nat.eq_of_beq_eq_true ht
      split at h
      · rename_i lo hi
        unfold ile at h
        simp only [Bool.and_eq_true, decide_eq_true_eq] at h
        refine ⟨_, gT_i hk hv, ?_, ?_⟩ <;> omega
      · exact leA_ok (τ := τ) hG _ _ v h hv
    · exact leA_ok (τ := τ) hG _ _ v h hv
theorem fyC_ok {τ : Nat → List (Option Nat)} {k : Nat} {c d : Int} (hk : Nat.ble 200 k = true) (h1 : c ≤ (decA (τ k) 0).toInt) (h2 : (decA (τ k) 0).toInt ≤ d) (e a : AC) (v : PE) (h : fyC k c d e a = true) (hv : gC ρ0 τ a v) : gC ρ0 τ e v := by
  have hG : gG ρ0 ([] : List (Int × Int)) := fun _ _ _ e => by cases e
  rcases e with ⟨t, n, lo, hi⟩ | ⟨ci, fs⟩ <;> rcases a with ⟨t2, n2, lo2, hi2⟩ | ⟨cj, gs⟩
  · exact leC_ok (τ := τ) hG (.inl (t, n, lo, hi)) (.inl (t2, n2, lo2, hi2)) v h hv
  · cases h
  · cases h
  · have h : (Nat.beq ci cj && all2b (fyV k c d) fs gs) = true := h
    rw [Bool.and_eq_true] at h
    rcases v with ⟨t', n', f⟩ | ⟨ci', fs'⟩
    · exact hv.elim
    · exact ⟨hv.1.trans (Nat.eq_of_beq_eq_true h.1).symm, all2b_imp (fyV_ok hk h1 h2) h.2 hv.2⟩
theorem fyH {τ : Nat → List (Option Nat)} {k : Nat} {c d : Int} {E A : List AC} {h : PH} (hk : Nat.ble 200 k = true) (h1 : c ≤ (decA (τ k) 0).toInt) (h2 : (decA (τ k) 0).toInt ≤ d) (hb : all2b (fyC k c d) E A = true) (hh : all2 (gC ρ0 τ) A h) : all2 (gC ρ0 τ) E h := all2b_imp (fyC_ok hk h1 h2) hb hh

