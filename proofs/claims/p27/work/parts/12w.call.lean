/-! ===== abstract calls ===== -/
def ρ0 : Nat → Int := fun _ => 0
def gR (o : Option (Int × Int)) (r : Option PV) : Prop := match o with
  | none => r = none
  | some (lo, hi) => ∃ x : Int32, r = some (.inl x) ∧ lo ≤ x.toInt ∧ x.toInt ≤ hi
/-- what a method asks of its arguments and cells, and what it gives -/
abbrev Con : Type := List AV × List AC × List (Option (Int × Int) × List AC)
def tauC (τ : Nat → List (Option Nat)) (tm : List AV) (t : Nat) : List (Option Nat) := match Nat.ble 100 t with
  | true => τ t
  | false => match nth tm t with
    | some (.inr (.inr (some (.inl p)))) => [some p]
    | some (.inr (.inr (some (.inr u)))) => none :: τ u
    | _ => []
theorem tauC_hi {τ : Nat → List (Option Nat)} {tm : List AV} {t : Nat} (h : Nat.ble 100 t = true) : tauC τ tm t = τ t := by
  unfold tauC
  rw [h]
theorem tauC_lo {τ : Nat → List (Option Nat)} {tm : List AV} {t : Nat} (h : Nat.ble 100 t = false) : tauC τ tm t = (match nth tm t with
    | some (.inr (.inr (some (.inl p)))) => [some p]
    | some (.inr (.inr (some (.inr u)))) => none :: τ u
    | _ => []) := by
  unfold tauC
  rw [h]
theorem lo200 {t : Nat} (h : Nat.ble 100 t = false) : Nat.ble 200 t = false := by
  cases hb : Nat.ble 200 t
  · rfl
  · have h1 := Nat.ble_eq.mp hb
    have h2 : Nat.ble 100 t = true := Nat.ble_eq.mpr (by omega)
    rw [h2] at h
    exact h
/-- what is kept exactly is well made -/
def codeC (cd : Nat → Int32) (D : Nat → Nat) (b k : Nat) : Prop := 0 ≤ (cd k).toInt ∧
  (((cd k).toInt / 1048576 = 0 ∧ D (k + 1) = D k + 1)
  ∨ ((cd k).toInt / 1048576 = 1 ∧ (cd k).toInt % 1048576 ≤ 8 ∧ D (k + 1) = D k + 1)
  ∨ ((cd k).toInt / 1048576 = 10 ∧ 1 ≤ D k ∧ D (k + 1) = D k)
  ∨ (((cd k).toInt / 1048576 = 11 ∨ (cd k).toInt / 1048576 = 12) ∧ 1 ≤ D k ∧ D (k + 1) + 1 = D k ∧ (k : Int) < (cd k).toInt % 1048576 ∧ (cd k).toInt % 1048576 ≤ b ∧ D ((cd k).toInt % 1048576).toNat = D k)
  ∨ (2 ≤ (cd k).toInt / 1048576 ∧ (cd k).toInt / 1048576 ≤ 9 ∧ 2 ≤ D k ∧ D (k + 1) + 1 = D k))
def partC (cd : Nat → Int32) (a b : Int) : Prop := 0 ≤ a ∧ a ≤ b ∧ b ≤ 260 ∧ ∃ D : Nat → Nat, D a.toNat = 0 ∧ ∀ k, a.toNat ≤ k → k < b.toNat → codeC cd D b.toNat k
def lawC (cd cf ch ct : Nat → Int32) (n : Int32) : Prop := 0 ≤ n.toInt ∧ n.toInt ≤ 16 ∧ ∀ q : Nat, (q : Int) < n.toInt → partC cd (cf q).toInt (ch q).toInt ∧ partC cd (ch q).toInt (ct q).toInt
def Φ (τ : Nat → List (Option Nat)) : Prop := lawC (decA (τ 100)) (decA (τ 101)) (decA (τ 102)) (decA (τ 103)) (decA (τ 200) 0)
theorem Φ_tau {τ : Nat → List (Option Nat)} {tm : List AV} (h : Φ τ) : Φ (tauC τ tm) := h
def conOk (M : List PV → PH → (Option PV → PH → Prop) → Prop) (C : Con) : Prop := ∀ (τ : Nat → List (Option Nat)), Φ τ → ∀ (as : List PV) (h : PH), all2 (gV ρ0 τ) C.1 as → all2 (gC ρ0 τ) C.2.1 h → M as h (fun r h' => ∃ q, q ∈ C.2.2 ∧ gR q.1 r ∧ all2 (gC ρ0 τ) q.2 h')
def insA (G : List (Int × Int)) (lo hi : Int) (a : AV) : Bool := match iv G a with
  | some (l, u) => ile lo l && ile u hi
  | none => false
/-- does the caller's value (second) do for what the callee asks (first)? -/
def mA (G : List (Int × Int)) (ρs : List Nat) (tm : List AV) (e a : AV) : Bool := match e with
  | .inl (lo, hi) => insA G lo hi a
  | .inr (.inl _) => false
  | .inr (.inr none) => match a with
    | .inr (.inr none) => true
    | _ => false
  | .inr (.inr (some (.inl i))) => match a with
    | .inr (.inr (some (.inl p))) => match posq ρs p 0 with
      | some j => Nat.beq i j
      | none => Nat.beq i p && Nat.ble 1000000 p
    | _ => false
  | .inr (.inr (some (.inr t))) => match Nat.ble 100 t with
    | true => (match a with
      | .inr (.inr (some (.inr u))) => Nat.beq t u && Nat.ble 200 t
      | _ => false)
    | false => match a, nth tm t with
      | .inr (.inr (some (.inl p))), some (.inr (.inr (some (.inl q)))) => Nat.beq p q && (match posq ρs p 0 with
        | some _ => false
        | none => Nat.blt p 1000000)
      | .inr (.inr (some (.inr u))), some (.inr (.inr (some (.inr w)))) => Nat.beq u w && !Nat.ble 200 u
      | _, _ => false
def all2b {α β : Type} (R : α → β → Bool) : List α → List β → Bool
  | [], [] => true
  | a :: x, b :: y => R a b && all2b R x y
  | _, _ => false
def mC (G : List (Int × Int)) (ρs : List Nat) (tm : List AV) (e a : AC) : Bool := match e, a with
  | .inl (t, n, lo, hi), .inl (t', n', l, u) => ((Nat.beq t t' || (Nat.beq t 3 && (Nat.ble 600 t' && !Nat.ble 700 t'))) && Nat.beq n n') && ((ile lo l && ile u hi) && (!Nat.beq t 5 || (ieq lo l && ile 100 lo)))
  | .inr (ci, fs), .inr (cj, gs) => Nat.beq ci cj && all2b (mA G ρs tm) fs gs
  | _, _ => false
def mH (G : List (Int × Int)) (ρs : List Nat) (tm : List AV) (H : List AC) : List AC → List Nat → Bool
  | [], [] => true
  | c :: cs, a :: r => (match nth H a with
    | some e => mC G ρs tm c e
    | none => false) && mH G ρs tm H cs r
  | _, _ => false
def bA (ρs : List Nat) (tm : List AV) (e : AV) : Option AV := match e with
  | .inl r => some (.inl r)
  | .inr (.inl _) => none
  | .inr (.inr none) => some (.inr (.inr none))
  | .inr (.inr (some (.inl i))) => match nth ρs i with
    | some a => some (.inr (.inr (some (.inl a))))
    | none => none
  | .inr (.inr (some (.inr t))) => match Nat.ble 100 t with
    | true => (match Nat.ble 200 t with
      | true => some (.inr (.inr (some (.inr t))))
      | false => none)
    | false => match nth tm t with
      | some (.inr (.inr (some (.inl p)))) => some (.inr (.inr (some (.inl p))))
      | some (.inr (.inr (some (.inr u)))) => (match Nat.ble 200 u with
        | true => none
        | false => some (.inr (.inr (some (.inr u)))))
      | _ => none
def bL (ρs : List Nat) (tm : List AV) : List AV → Option (List AV)
  | [] => some []
  | e :: r => match bA ρs tm e, bL ρs tm r with
    | some a, some x => some (a :: x)
    | _, _ => none
def bC (ρs : List Nat) (tm : List AV) (e : AC) : Option AC := match e with
  | .inl (t, n, lo, hi) => match !Nat.beq t 5 || ile 100 lo with
    | true => some (.inl (t, n, lo, hi))
    | false => none
  | .inr (ci, fs) => match bL ρs tm fs with
    | some gs => some (.inr (ci, gs))
    | none => none
def wbA (ρs : List Nat) (tm : List AV) : List Nat → List AC → List AC → Option (List AC)
  | [], [], H => some H
  | a :: r, e :: cs, H => match bC ρs tm e, nth H a with
    | some e', some _ => wbA ρs tm r cs (setl H a e')
    | _, _ => none
  | _, _, _ => none
def popA : Nat → List AV → List AV → Option (List AV × List AV)
  | 0, s, acc => some (acc, s)
  | n + 1, a :: s, acc => popA n s (a :: acc)
  | _ + 1, [], _ => none
def rcA (rc : Option Nat) (as : List AV) (H : List AC) : Bool := match rc with
  | none => true
  | some ci => match as with
    | .inr (.inr (some (.inl a))) :: _ => match nth H a with
      | some (.inr (cj, _)) => Nat.beq ci cj
      | _ => false
    | _ => false
def pushR (o : Option (Int × Int)) (s : List AV) : List AV := match o with
  | none => s
  | some q => .inl q :: s
def altK (ρs : List Nat) (tm : List AV) (K : Sg → Bool) (r : List AV) (σ : Sg) : List (Option (Int × Int) × List AC) → Bool
  | [] => true
  | q :: l => (match wbA ρs tm ρs q.2 σ.2.2.2.2 with
    | some H2 => K (sH (sS σ (pushR q.1 r)) H2)
    | none => false) && altK ρs tm K r σ l
theorem altK_mem {ρs : List Nat} {tm : List AV} {K : Sg → Bool} {r : List AV} {σ : Sg} {q : Option (Int × Int) × List AC} : ∀ {l : List (Option (Int × Int) × List AC)}, altK ρs tm K r σ l = true → q ∈ l → ∃ H2, wbA ρs tm ρs q.2 σ.2.2.2.2 = some H2 ∧ K (sH (sS σ (pushR q.1 r)) H2) = true
  | [], _, hq => absurd hq List.not_mem_nil
  | a :: l, h, hq => by
    unfold altK at h
    rw [Bool.and_eq_true] at h
    rcases List.mem_cons.mp hq with rfl | hq
    · have h1 := h.1
      split at h1
      · rename_i H2 e
        exact ⟨H2, e, h1⟩
      · cases h1
    · exact altK_mem h.2 hq
def a_call (C : Con) (rc : Option Nat) (n : Nat) (ρs : List Nat) (tm : List AV) (K : Sg → Bool) (σ : Sg) : Bool := match popA n σ.2.2.2.1 [] with
  | some (as, r) => (rcA rc as σ.2.2.2.2 && (Nat.ble r.length 8 && Nat.ble ρs.length 1000 && Nat.ble σ.2.2.2.2.length 1000 && va_nd ρs)) && ((all2b (mA σ.1 ρs tm) C.1 as && mH σ.1 ρs tm σ.2.2.2.2 C.2.1 ρs) && altK ρs tm K r σ C.2.2)
  | none => false
section ABS4
variable {ρ : Nat → Int} {τ : Nat → List (Option Nat)} {m0 : Int} {K : Sg → Bool} {k : Blk} {G : List (Int × Int)} {ρs : List Nat} {tm : List AV}
theorem mA_ok (hG : gG ρ G) (e a : AV) (v : PV) (h : mA G ρs tm e a = true) (hv : gV ρ τ a v) : gV ρ0 (tauC τ tm) e (un1 ρs v) := by
  rcases e with ⟨lo, hi⟩ | ⟨kk, d⟩ | _ | i | t
  · have h : insA G lo hi a = true := h
    unfold insA at h
    split at h
    · rename_i l u e1
      rw [Bool.and_eq_true] at h
      have g1 := of_decide_eq_true h.1
      have g2 := of_decide_eq_true h.2
      obtain ⟨x, rfl, hx⟩ := iv_ok hG e1 hv
      exact ⟨x, rfl, by omega, by omega⟩
    · cases h
  · cases h
  · rcases a with q | q | _ | p | u
    · cases h
    · cases h
    · cases (hv : v = .inr none); rfl
    · cases h
    · cases h
  · rcases a with q | q | _ | p | u
    · cases h
    · cases h
    · cases h
    · cases (hv : v = .inr (some (.inl p)))
      have h : (match posq ρs p 0 with | some j => Nat.beq i j | none => Nat.beq i p && Nat.ble 1000000 p) = true := h
      split at h
      · rename_i j hj
        cases Nat.eq_of_beq_eq_true h
        show un1 ρs (.inr (some (.inl p))) = .inr (some (.inl i))
        unfold un1
        dsimp only
        rw [hj]
      · rename_i hj
        rw [Bool.and_eq_true] at h
        cases Nat.eq_of_beq_eq_true h.1
        show un1 ρs (.inr (some (.inl i))) = .inr (some (.inl i))
        unfold un1
        dsimp only
        rw [hj]
        dsimp only
        rw [h.2]
    · cases h
  · unfold mA at h
    dsimp only at h
    split at h
    · rename_i h100
      split at h
      · rename_i u
        rw [Bool.and_eq_true] at h
        cases Nat.eq_of_beq_eq_true h.1
        have e := gT_i h.2 hv
        subst e
        exact gT_to (tauC_hi h100) hv
      · cases h
    · rename_i h100
      have h200 := lo200 h100
      have go : ∀ w, w = .inr (some (.inr (tauC τ tm t))) → gV ρ0 (tauC τ tm) (.inr (.inr (some (.inr t)))) w := by
        intro w hw
        show gT (tauC τ tm) t w
        unfold gT
        rw [h200]
        exact hw
      split at h
      · rename_i p q hq
        cases (hv : v = .inr (some (.inl p)))
        rw [Bool.and_eq_true] at h
        obtain ⟨g1, g2⟩ := h
        cases Nat.eq_of_beq_eq_true g1
        split at g2
        · cases g2
        · rename_i hpos
          have g2 := Nat.blt_eq.mp g2
          have hb : Nat.ble 1000000 p = false := by
            cases hb : Nat.ble 1000000 p
            · rfl
            · have := Nat.ble_eq.mp hb; omega
          refine go _ ?_
          show un1 ρs (.inr (some (.inl p))) = .inr (some (.inr (tauC τ tm t)))
          rw [tauC_lo h100]
          unfold un1
          dsimp only
          rw [hpos, hq]
          dsimp only
          rw [hb]
      · rename_i u w hq
        rw [Bool.and_eq_true, Bool.not_eq_true'] at h
        cases gT_r h.2 hv
        cases Nat.eq_of_beq_eq_true h.1
        refine go _ ?_
        show un1 ρs (.inr (some (.inr (τ u)))) = .inr (some (.inr (tauC τ tm t)))
        rw [tauC_lo h100]
        unfold un1
        rw [hq]
      · cases h
theorem all2b_map {α β γ δ : Type} {R : α → β → Bool} {S : β → γ → Prop} {T : α → δ → Prop} {f : γ → δ} (hi : ∀ a b v, R a b = true → S b v → T a (f v)) : ∀ {x : List α} {y : List β} {z : List γ}, all2b R x y = true → all2 S y z → all2 T x (z.map f)
  | [], [], [], _, _ => trivial
  | [], [], _ :: _, _, h => h.elim
  | [], _ :: _, _, h, _ => by cases h
  | _ :: _, [], _, h, _ => by cases h
  | _ :: _, _ :: _, [], _, h => h.elim
  | a :: x, b :: y, c :: z, h, h2 => by
    have h : (R a b && all2b R x y) = true := h
    rw [Bool.and_eq_true] at h
    exact ⟨hi a b c h.1 h2.1, all2b_map hi h.2 h2.2⟩
theorem mC_ok (hG : gG ρ G) (e a : AC) (v : PE) (h : mC G ρs tm e a = true) (hv : gC ρ τ a v) : gC ρ0 (tauC τ tm) e (un2 ρs v) := by
  rcases e with ⟨t, n, lo, hi⟩ | ⟨ci, fs⟩ <;> rcases a with ⟨t', n', l, u⟩ | ⟨cj, gs⟩ <;> rcases v with ⟨t2, n2, f⟩ | ⟨ck, hs⟩
  · unfold mC at h
    dsimp only at h
    simp only [Bool.and_eq_true, Bool.or_eq_true, Bool.not_eq_true'] at h
    obtain ⟨⟨g1, g2⟩, ⟨g3, g4⟩, g5⟩ := h
    have g3 := of_decide_eq_true g3
    have g4 := of_decide_eq_true g4
    cases Nat.eq_of_beq_eq_true g2
    rcases g1 with g1 | ⟨g1, h6, h7⟩
    rotate_left
    · cases Nat.eq_of_beq_eq_true g1
      exact ⟨hv.1.trans (kk_6 h6 h7), hv.2.1, fun i hi => ⟨fun hs => by
        have := (hv.2.2 i hi).1 (by rw [sel_6 h6 h7]; exact hs)
        exact ⟨by omega, by omega⟩, fun e5 => (by cases e5), fun e9 => (by cases e9)⟩⟩
    cases Nat.eq_of_beq_eq_true g1
    refine ⟨hv.1, hv.2.1, fun i hi => ⟨fun hs => by have := (hv.2.2 i hi).1 hs; exact ⟨by omega, by omega⟩, fun e5 => ?_, fun e9 => g3_to (fun ek => tauC_hi (Nat.ble_eq.mpr (by have := Nat.ble_eq.mp ek; omega))) (fun ek => tauC_hi (Nat.ble_eq.mpr (by have := Nat.ble_eq.mp ek; omega))) ((hv.2.2 i hi).2.2 e9)⟩⟩
    subst e5
    rcases g5 with g5 | ⟨g5, g6⟩
    · cases g5
    · have g5 := of_decide_eq_true g5
      have g6 := of_decide_eq_true g6
      have := (hv.2.2 i hi).2.1 rfl
      rw [← g5] at this
      rw [tauC_hi (show Nat.ble 100 lo.toNat = true from Nat.ble_eq.mpr (by omega))]
      exact this
  · exact hv.elim
  · cases h
  · cases h
  · cases h
  · cases h
  · exact hv.elim
  · unfold mC at h
    dsimp only at h
    rw [Bool.and_eq_true] at h
    cases Nat.eq_of_beq_eq_true h.1
    exact ⟨hv.1, all2b_map (mA_ok hG) h.2 hv.2⟩
theorem pick_in (hG : gG ρ G) {H : List AC} {h : PH} (h3 : all2 (gC ρ τ) H h) : ∀ {cs : List AC} {r : List Nat} {k : PH → Prop}, mH G ρs tm H cs r = true → (∀ hc, all2 (gC ρ0 (tauC τ tm)) cs hc → k hc) → pick ρs h r k
  | [], [], k, _, hk => hk [] trivial
  | [], _ :: _, _, hm, _ => by cases hm
  | _ :: _, [], _, hm, _ => by cases hm
  | c :: cs, a :: r, k, hm, hk => by
    unfold mH at hm
    rw [Bool.and_eq_true] at hm
    obtain ⟨g1, g2⟩ := hm
    split at g1
    · rename_i e he
      obtain ⟨v, hv, hgv⟩ := all2_nth h3 he
      unfold pick
      rw [hv]
      dsimp only
      rw [unE_eq]
      exact pick_in hG h3 g2 (fun hc hh => hk _ ⟨mC_ok hG c e v g1 hgv, hh⟩)
    · cases g1
theorem bA_ok {nh : Nat} (e a : AV) (v : PV) (h : bA ρs tm e = some a) (hv : gV ρ0 (tauC τ tm) e v) : gV ρ τ a (re1 ρs 0 nh v) := by
  rcases e with ⟨lo, hi⟩ | ⟨kk, d⟩ | _ | i | t
  · cases h
    obtain ⟨x, rfl, hx⟩ := hv
    exact ⟨x, rfl, hx⟩
  · cases h
  · cases h
    cases (hv : v = .inr none)
    rfl
  · unfold bA at h
    dsimp only at h
    split at h
    · rename_i q hq
      cases h
      cases (hv : v = .inr (some (.inl i)))
      show re1 ρs 0 nh (.inr (some (.inl i))) = .inr (some (.inl q))
      unfold re1
      dsimp only
      rw [hq]
    · cases h
  · unfold bA at h
    dsimp only at h
    split at h
    · rename_i h100
      split at h
      · rename_i h200
        cases h
        have e := gT_i h200 hv
        subst e
        exact gT_to (tauC_hi h100).symm hv
      · cases h
    · rename_i h100
      cases gT_r (lo200 h100) hv
      split at h
      · rename_i p hq
        cases h
        have e1 : tauC τ tm t = [some p] := by rw [tauC_lo h100, hq]
        rw [e1]
        rfl
      · rename_i u hq
        split at h
        · cases h
        · rename_i h2
          cases h
          have e1 : tauC τ tm t = none :: τ u := by rw [tauC_lo h100, hq]
          rw [e1]
          show gT τ u _
          unfold gT
          rw [h2]
          rfl
      · cases h
theorem bL_ok {nh : Nat} : ∀ (fs gs : List AV) (vs : List PV), bL ρs tm fs = some gs → all2 (gV ρ0 (tauC τ tm)) fs vs → all2 (gV ρ τ) gs (vs.map (re1 ρs 0 nh))
  | [], gs, [], h, _ => by cases h; trivial
  | [], _, _ :: _, _, h => h.elim
  | _ :: _, _, [], _, h => h.elim
  | f :: fs, gs, v :: vs, h, h2 => by
    unfold bL at h
    split at h
    · rename_i a x e1 e2
      cases h
      exact ⟨bA_ok f a v e1 h2.1, bL_ok fs x vs e2 h2.2⟩
    · cases h
theorem bC_ok {nh : Nat} (e a : AC) (v : PE) (h : bC ρs tm e = some a) (hv : gC ρ0 (tauC τ tm) e v) : gC ρ τ a (re2 ρs 0 nh v) := by
  rcases e with ⟨t, n, lo, hi⟩ | ⟨ci, fs⟩ <;> rcases v with ⟨t2, n2, f⟩ | ⟨ck, hs⟩
  · unfold bC at h
    dsimp only at h
    split at h
    · rename_i hq
      cases h
      rw [Bool.or_eq_true, Bool.not_eq_true'] at hq
      refine ⟨hv.1, hv.2.1, fun i hi => ⟨(hv.2.2 i hi).1, fun e5 => ?_, fun e9 => g3_to (fun ek => (tauC_hi (Nat.ble_eq.mpr (by have := Nat.ble_eq.mp ek; omega))).symm) (fun ek => (tauC_hi (Nat.ble_eq.mpr (by have := Nat.ble_eq.mp ek; omega))).symm) ((hv.2.2 i hi).2.2 e9)⟩⟩
      subst e5
      rcases hq with hq | hq
      · cases hq
      · have := (hv.2.2 i hi).2.1 rfl
        have hq := of_decide_eq_true hq
        rw [tauC_hi (show Nat.ble 100 lo.toNat = true from Nat.ble_eq.mpr (by omega))] at this
        exact this
    · cases h
  · exact hv.elim
  · exact hv.elim
  · unfold bC at h
    dsimp only at h
    split at h
    · rename_i gs e1
      cases h
      exact ⟨hv.1, bL_ok fs gs hs e1 hv.2⟩
    · cases h
theorem wb_in {nh : Nat} : ∀ (r : List Nat) (cs H H2 : List AC) (h' h : PH) (k : PH → Prop), wbA ρs tm r cs H = some H2 → all2 (gC ρ0 (tauC τ tm)) cs h' → all2 (gC ρ τ) H h → (∀ h2, all2 (gC ρ τ) H2 h2 → k h2) → wbK ρs 0 nh r h' h k
  | [], [], H, H2, [], h, k, hw, _, hh, hk => by cases hw; exact hk h hh
  | [], [], _, _, _ :: _, _, _, _, h, _, _ => h.elim
  | [], _ :: _, _, _, _, _, _, hw, _, _, _ => by cases hw
  | _ :: _, [], _, _, _, _, _, hw, _, _, _ => by cases hw
  | _ :: _, _ :: _, _, _, [], _, _, _, h, _, _ => h.elim
  | a :: r, c :: cs, H, H2, e :: h', h, k, hw, hc, hh, hk => by
    unfold wbA at hw
    split at hw
    · rename_i e' o e1 e2
      unfold wbK
      rw [reE_eq]
      exact all2_put (R := gC ρ τ) (bC_ok c e' e e1 hc.1) hh e2 (fun h2 hh2 => wb_in r cs _ H2 h' h2 k hw hc.2 hh2 hk)
    · cases hw
theorem pop_in {A r : List AV} {k : List PV → List PV → Prop} : ∀ (n : Nat) (s acc : List AV) (st acc' : List PV), popA n s acc = some (A, r) → all2 (gV ρ τ) s st → all2 (gV ρ τ) acc acc' → (∀ as rest, all2 (gV ρ τ) A as → all2 (gV ρ τ) r rest → k as rest) → popN n st acc' k
  | 0, s, acc, st, acc', h, h1, h2, hk => by cases h; exact hk acc' st h2 h1
  | n + 1, [], _, _, _, h, _, _, _ => by cases h
  | n + 1, _ :: _, _, [], _, _, h, _, _ => h.elim
  | n + 1, a :: s, acc, v :: st, acc', h, h1, h2, hk => pop_in n s (a :: acc) st (v :: acc') h h1.2 ⟨h1.1, h2⟩ hk
theorem s_call {M : List PV → PH → (Option PV → PH → Prop) → Prop} {C : Con} {rc : Option Nat} {n : Nat} (hΦ : Φ τ) (hC : conOk M C) (hk : ∀ σ, K σ = true → Sf τ m0 k σ) (σ : Sg) (h : a_call C rc n ρs tm K σ = true) : Sf τ m0 (o_call M rc n ρs k) σ := by
  intro ρ L st hp hS
  obtain ⟨G, F, La, sa, Ha⟩ := σ
  obtain ⟨hG, hF, h1, h2, h3⟩ := hS
  unfold a_call at h
  dsimp only at h
  split at h
  · rename_i as r epop
    rw [Bool.and_eq_true] at h
    obtain ⟨hA, hB⟩ := h
    rw [Bool.and_eq_true] at hA hB
    obtain ⟨g1, hA⟩ := hA
    rw [Bool.and_eq_true] at hA
    obtain ⟨g2, g3⟩ := hA
    obtain ⟨hB, g6⟩ := hB
    rw [Bool.and_eq_true] at hB
    obtain ⟨g4, g5⟩ := hB
    unfold o_call
    refine pop_in n sa [] st [] epop h2 trivial (fun as' rest ha hr => ?_)
    have hlen : (Nat.ble rest.length 8 && Nat.ble ρs.length 1000 && Nat.ble hp.length 1000) = true := by rw [all2_len hr, all2_len h3]; exact g2
    have body : (Nat.ble rest.length 8 && Nat.ble ρs.length 1000 && Nat.ble hp.length 1000) = true ∧ va_nd ρs = true ∧ pick ρs hp ρs (fun hc => unL ρs as' (fun as' => ∃ post : Option PV → PH → Prop, M as' hc post ∧ ∀ (r : Option PV) (h' : PH), post r h' → wbK ρs 0 hp.length ρs h' hp (fun h2 => match r with
      | none => k L rest h2
      | some v => reK ρs 0 hp.length v (fun v' => k L (v' :: rest) h2)))) := by
      refine ⟨hlen, g3, pick_in hG h3 g5 (fun hc hhc => ?_)⟩
      rw [unL_eq]
      refine ⟨_, hC (tauC τ tm) (Φ_tau hΦ) (as'.map (un1 ρs)) hc (all2b_map (mA_ok hG) g4 ha) hhc, fun r' h' hpost => ?_⟩
      obtain ⟨q, hq, hret, hh'⟩ := hpost
      obtain ⟨H2, ewb, g6⟩ := altK_mem g6 hq
      refine wb_in ρs q.2 Ha H2 h' hp _ ewb hh' h3 (fun h2' hh2 => ?_)
      unfold gR at hret
      have g6 : K (sH (sS (G, F, La, sa, Ha) (pushR q.1 r)) H2) = true := g6
      split at hret
      · rename_i er
        cases hret
        rw [er] at g6
        exact hk _ g6 ρ L rest h2' ⟨hG, hF, h1, hr, hh2⟩
      · rename_i lo hi er
        obtain ⟨x, rfl, hx⟩ := hret
        rw [er] at g6
        exact hk _ g6 ρ L _ h2' ⟨hG, hF, h1, ⟨⟨x, rfl, hx⟩, hr⟩, hh2⟩
    cases rc with
    | none => exact body
    | some ci =>
      unfold rcA at g1
      dsimp only at g1
      split at g1
      · rename_i a as1
        split at g1
        · rename_i cj fs ecell
          obtain ⟨v, as2, rfl, hv, _⟩ := all2_cons ha
          cases (hv : v = .inr (some (.inl a)))
          obtain ⟨e, he, hge⟩ := all2_nth h3 ecell
          rcases e with ⟨t', n', f⟩ | ⟨ci', fs'⟩
          · exact hge.elim
          · obtain ⟨rfl, _⟩ := hge
            unfold rcK
            dsimp only
            rw [he]
            dsimp only
            rw [g1]
            exact body
        · cases g1
      · cases g1
  · cases h
end ABS4
