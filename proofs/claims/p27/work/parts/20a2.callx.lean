/-! ===== calls whose answers are told exactly, and behind which other things may be kept ===== -/
def wxA (ch : Nat → Bool) (a : AV) : AV := match a with
  | .inr (.inr (some (.inr t))) => match Nat.ble 100 t && ch t with
    | true => topA
    | false => a
  | a => a
def wxC (ch : Nat → Bool) (c : AC) : AC := match c with
  | .inl (t, n, lo, hi) => match Nat.beq t 5 && ch lo.toNat with
    | true => .inl (0, n, -2147483648, 2147483647)
    | false => match Nat.ble 1000 t && ch (t / 4) with
      | true => .inl (t % 4, n, lo, hi)
      | false => match (Nat.ble 600 t && !Nat.ble 700 t) && ch (t - 392) with
        | true => .inl (3, n, lo, hi)
        | false => .inl (t, n, lo, hi)
  | .inr (ci, fs) => .inr (ci, fs.map (wxA ch))
def oxC (c : AC) : Bool := match c with
  | .inl (t, _, lo, _) => (!Nat.ble 1000 t || Nat.blt (t % 4) 3) && (!Nat.beq t 5 || Nat.ble 100 lo.toNat)
  | .inr (_, fs) => fs.all okwA
theorem wxA_ok {ρ : Nat → Int} {τ τ' : Nat → List (Option Nat)} {ch : Nat → Bool} (e : ∀ t, (Nat.ble 100 t && ch t) = false → τ' t = τ t) (a : AV) (v : PV) (ho : okwA a = true) (h : gV ρ τ a v) : gV ρ τ' (wxA ch a) v := by
  rcases a with ⟨l, u⟩ | ⟨k, d⟩ | _ | a | t
  · exact h
  · exact h
  · exact h
  · exact h
  · have ho : (Nat.ble 200 t || !Nat.ble 100 t) = true := ho
    unfold wxA
    dsimp only
    split
    · rename_i h2
      rw [Bool.and_eq_true] at h2
      rw [h2.1, Bool.not_true, Bool.or_false] at ho
      rw [gT_i (τ := τ) (t := t) ho h]
      exact topA_ok _
    · rename_i h2
      exact gT_to (e t h2) h
theorem wxC_ok {ρ : Nat → Int} {τ τ' : Nat → List (Option Nat)} {ch : Nat → Bool} (e : ∀ t, (Nat.ble 100 t && ch t) = false → τ' t = τ t) (a : AC) (v : PE) (ho : oxC a = true) (h : gC ρ τ a v) : gC ρ τ' (wxC ch a) v := by
  rcases a with ⟨t, n, lo, hi⟩ | ⟨ci, fs⟩
  · rcases v with ⟨t', n', f⟩ | ⟨ci', fs'⟩
    · have ho : ((!Nat.ble 1000 t || Nat.blt (t % 4) 3) && (!Nat.beq t 5 || Nat.ble 100 lo.toNat)) = true := ho
      rw [Bool.and_eq_true] at ho
      unfold wxC
      dsimp only
      split
      · rename_i h5
        rw [Bool.and_eq_true] at h5
        cases Nat.eq_of_beq_eq_true h5.1
        exact ⟨h.1, h.2.1, fun i hi => ⟨fun _ => ⟨i32lo _, i32hi _⟩, fun z => (by cases z), fun z => (by cases z)⟩⟩
      · rename_i h5
        split
        · rename_i hk
          rw [Bool.and_eq_true] at hk
          have h3 : t % 4 < 3 := by
            have q := ho.1
            rw [hk.1, Bool.not_true, Bool.false_or] at q
            exact Nat.blt_eq.mp q
          refine ⟨?_, h.2.1, fun i hi => ⟨fun _ => (h.2.2 i hi).1 (sel_x hk.1), fun z => ?_, fun z => ?_⟩⟩
          · rw [kk_lt h3, ← kk_x hk.1]
            exact h.1
          · omega
          · have := Nat.ble_eq.mp z
            omega
        · rename_i hk
          split
          · rename_i h6
            rw [Bool.and_eq_true, Bool.and_eq_true, Bool.not_eq_true'] at h6
            exact ⟨h.1.trans (kk_6 h6.1.1 h6.1.2), h.2.1, fun i hi => ⟨fun hs => (h.2.2 i hi).1 (by rw [sel_6 h6.1.1 h6.1.2]; exact hs), fun z => (by cases z), fun z => (by cases z)⟩⟩
          rename_i h6
          have g6 : ∀ i, Nat.ble 10 t = true → g3 τ t i (f i) → g3 τ' t i (f i) := fun i _ gi => by
            cases k1 : Nat.ble 1000 t
            · cases k7 : Nat.ble 700 t
              · cases k6 : Nat.ble 600 t
                · exact g3_q k7 k6 (g3_p k7 k6 gi)
                · refine g3_dm k7 k6 (fun ei => ?_)
                  rw [e (t - 392) (by rw [k6, k7] at h6; have h6 : ch (t - 392) = false := h6; rw [h6, Bool.and_false])]
                  exact g3_d k7 k6 gi ei
              · exact g3_m k1 k7
            · refine g3_mk k1 ?_
              rw [e (t / 4) (by rw [k1, Bool.true_and] at hk; rw [hk, Bool.and_false])]
              exact g3_x k1 gi
          refine ⟨h.1, h.2.1, fun i hi => ⟨(h.2.2 i hi).1, fun z => ?_, fun z => g6 i z ((h.2.2 i hi).2.2 z)⟩⟩
          · subst z
            rw [e lo.toNat]
            · exact (h.2.2 i hi).2.1 rfl
            · have q := h5
              rw [show Nat.beq 5 5 = true from rfl, Bool.true_and] at q
              rw [q, Bool.and_false]
    · exact h.elim
  · rcases v with ⟨t', n', f⟩ | ⟨ci', fs'⟩
    · exact h.elim
    · refine ⟨h.1, ?_⟩
      have ho : fs.all okwA = true := ho
      have h2 : all2 (gV ρ τ) fs fs' := h.2
      clear h
      induction fs generalizing fs' with
      | nil =>
        cases fs' with
        | nil => trivial
        | cons _ _ => exact h2.elim
      | cons a fs ih =>
        cases fs' with
        | nil => exact h2.elim
        | cons b fs' =>
          rw [List.all_cons, Bool.and_eq_true] at ho
          exact ⟨wxA_ok e a b ho.1 h2.1, ih ho.2 fs' ho.2 h2.2⟩
theorem wxH_ok {ρ : Nat → Int} {τ τ' : Nat → List (Option Nat)} {ch : Nat → Bool} (e : ∀ t, (Nat.ble 100 t && ch t) = false → τ' t = τ t) : ∀ {H : List AC} {h : PH}, H.all oxC = true → all2 (gC ρ τ) H h → all2 (gC ρ τ') (H.map (wxC ch)) h
  | [], [], _, _ => trivial
  | [], _ :: _, _, h => h.elim
  | _ :: _, [], _, h => h.elim
  | a :: H, b :: h, ho, hh => by
    rw [List.all_cons, Bool.and_eq_true] at ho
    exact ⟨wxC_ok e a b ho.1 hh.1, wxH_ok e ho.2 hh.2⟩
def conOkX (M : List PV → PH → (Option PV → PH → Prop) → Prop) (xs : List Int32) (H H2 : List AC) (ch : Nat → Bool) (Pre : (Nat → List (Option Nat)) → Prop) (Q : (Nat → List (Option Nat)) → (Nat → List (Option Nat)) → Int32 → Prop) : Prop := ∀ (τ : Nat → List (Option Nat)), Φ τ → Pre τ → ∀ (h : PH), all2 (gC ρ0 τ) H h → M (.inr (some (.inl 0)) :: xs.map .inl) h (fun r h' => ∃ (τ' : Nat → List (Option Nat)) (y : Int32), Φ τ' ∧ (∀ t, (Nat.ble 100 t && ch t) = false → τ' t = τ t) ∧ r = some (.inl y) ∧ Q τ τ' y ∧ all2 (gC ρ0 τ') H2 h')
theorem un1_ints (ρs : List Nat) : ∀ xs : List Int32, (xs.map (Sum.inl : Int32 → PV)).map (un1 ρs) = xs.map .inl
  | [] => rfl
  | x :: xs => by
    rw [List.map_cons, List.map_cons, un1_ints ρs xs]
    rfl
theorem callX {τ : Nat → List (Option Nat)} {M : List PV → PH → (Option PV → PH → Prop) → Prop} {xs : List Int32} {C C' : List AC} {ch : Nat → Bool} {Pre : (Nat → List (Option Nat)) → Prop} {Q : (Nat → List (Option Nat)) → (Nat → List (Option Nat)) → Int32 → Prop} {ci n a : Nat} {ρs : List Nat} {tm : List AV} {H H2 : List AC} {k : Blk} {L : PL} {st rest : List PV} {h : PH} (hΦ : Φ τ) (hPre : Pre (tauC τ tm)) (hC : conOkX M xs C C' ch Pre Q) (hh : all2 (gC ρ0 τ) H h) (hp : ∀ K : List PV → List PV → Prop, K (.inr (some (.inl a)) :: xs.map .inl) rest → popN n st [] K) (hl : Nat.ble rest.length 8 = true) (ha : nth H a = some (.inr (ci, (match nth H a with | some (.inr (_, fs)) => fs | _ => [])))) (hq : posq ρs a 0 = some 0) (hok : H.all oxC = true) (hb : tokB tm = true) (hw : subH H2 (wbA ρs tm ρs C' (H.map (wxC ch))) = true) (hc : ((Nat.ble ρs.length 1000 && Nat.ble H.length 1000 && va_nd ρs) && mH [] ρs tm H C ρs) = true) (hk : ∀ τ2 : Nat → List (Option Nat), Φ τ2 → (∀ t, (Nat.ble 100 t && ch t) = false → τ2 t = τ t) → ∀ (y : Int32) h2, Q (tauC τ tm) (tauC τ2 tm) y → all2 (gC ρ0 τ2) H2 h2 → k L (.inl y :: rest) h2) : o_call M (some ci) n ρs k L st h := by
  have hG : gG ρ0 ([] : List (Int × Int)) := fun _ _ _ e => by cases e
  obtain ⟨H3, hw, hw2⟩ := subH_ok hw
  simp only [Bool.and_eq_true] at hc
  obtain ⟨⟨⟨g2, g2'⟩, g3⟩, g5⟩ := hc
  unfold o_call
  apply hp
  obtain ⟨e, he, hge⟩ := all2_nth hh ha
  rcases e with ⟨t', n', f⟩ | ⟨ci', fs'⟩
  · exact hge.elim
  obtain ⟨rfl, _⟩ := hge
  unfold rcK
  dsimp only
  rw [he]
  dsimp only
  rw [Nat.beq_refl]
  refine ⟨by rw [all2_len hh, g2, g2', hl]; rfl, g3, pick_in hG hh g5 (fun hc hhc => ?_)⟩
  rw [unL_eq, List.map_cons, un1_ints]
  have e0 : un1 ρs (.inr (some (.inl a))) = .inr (some (.inl 0)) := by
    unfold un1
    dsimp only
    rw [hq]
  rw [e0]
  refine ⟨_, hC (tauC τ tm) (Φ_tau hΦ) hPre hc hhc, fun r' h' hpost => ?_⟩
  obtain ⟨τ', y, p1, p2, rfl, pQ, p4⟩ := hpost
  have p2' : ∀ t, Nat.ble 100 t = false → τ' t = tauC τ tm t := fun t ht => p2 t (by rw [ht]; rfl)
  have et : tauC (fun t => match Nat.ble 100 t with | true => τ' t | false => τ t) tm = τ' := tau2 p2' (fun t ht => by rw [ht]) (fun t ht => by rw [ht]) hb
  rw [← et] at p4 pQ
  have p1' : Φ (fun t => match Nat.ble 100 t with | true => τ' t | false => τ t) := p1
  have p3' : ∀ t, (Nat.ble 100 t && ch t) = false → (fun t => match Nat.ble 100 t with | true => τ' t | false => τ t) t = τ t := fun t ht => by
    dsimp only
    cases h1 : Nat.ble 100 t
    · rfl
    · exact (p2 t ht).trans (tauC_hi h1)
  refine wb_in ρs C' (H.map (wxC ch)) H3 h' h _ hw p4 (wxH_ok p3' hok hh) (fun h2' hh2 => ?_)
  exact hk _ p1' p3' y h2' pQ (all2b_imp (leC_ok hG) hw2 hh2)

