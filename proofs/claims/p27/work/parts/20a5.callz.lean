/-! ===== calls with rows that tell exactly, with cells among the arguments ===== -/
abbrev rfC (a : Nat) : PV := .inr (some (.inl a))
def conOkZ (M : List PV → PH → (Option PV → PH → Prop) → Prop) (rs : List Nat) (xs : List Int32) (H H2 : List AC) (ch : Nat → Bool) (Pre : (Nat → List (Option Nat)) → Prop) (Q : (Nat → List (Option Nat)) → (Nat → List (Option Nat)) → Option Int32 → Prop) : Prop := ∀ (τ : Nat → List (Option Nat)), Φ τ → Pre τ → ∀ (h : PH), all2 (gC ρ0 τ) H h → M (rs.map rfC ++ xs.map .inl) h (fun r h' => ∃ (τ' : Nat → List (Option Nat)) (y : Option Int32), Φ τ' ∧ (∀ t, (Nat.ble 100 t && ch t) = false → τ' t = τ t) ∧ r = y.map .inl ∧ Q τ τ' y ∧ all2 (gC ρ0 τ') H2 h')
theorem un1_refs (ρs : List Nat) : ∀ (as rs : List Nat), as.map (fun a => posq ρs a 0) = rs.map some → (as.map rfC).map (un1 ρs) = rs.map rfC
  | [], [], _ => rfl
  | [], _ :: _, h => by cases h
  | _ :: _, [], h => by cases h
  | a :: as, r :: rs, h => by
    have h1 : posq ρs a 0 = some r := (List.cons.inj h).1
    have e : un1 ρs (rfC a) = rfC r := by
      unfold un1
      dsimp only
      rw [h1]
    rw [List.map_cons, List.map_cons, e, un1_refs ρs as rs (List.cons.inj h).2]
    rfl
theorem callZ {τ : Nat → List (Option Nat)} {M : List PV → PH → (Option PV → PH → Prop) → Prop} {rs as : List Nat} {xs : List Int32} {C C' : List AC} {ch : Nat → Bool} {Pre : (Nat → List (Option Nat)) → Prop} {Q : (Nat → List (Option Nat)) → (Nat → List (Option Nat)) → Option Int32 → Prop} {ci n a : Nat} {ρs : List Nat} {tm : List AV} {H H2 : List AC} {k : Blk} {L : PL} {st rest : List PV} {h : PH} (hΦ : Φ τ) (hPre : Pre (tauC τ tm)) (hC : conOkZ M rs xs C C' ch Pre Q) (hh : all2 (gC ρ0 τ) H h) (hp : ∀ K : List PV → List PV → Prop, K (rfC a :: (as.map rfC ++ xs.map .inl)) rest → popN n st [] K) (hl : Nat.ble rest.length 8 = true) (ha : nth H a = some (.inr (ci, (match nth H a with | some (.inr (_, fs)) => fs | _ => [])))) (hq : (a :: as).map (fun a => posq ρs a 0) = rs.map some) (hok : H.all oxC = true) (hb : tokB tm = true) (hw : subH H2 (wbA ρs tm ρs C' (H.map (wxC ch))) = true) (hc : ((Nat.ble ρs.length 1000 && Nat.ble H.length 1000 && va_nd ρs) && mH [] ρs tm H C ρs) = true) (hk : ∀ τ2 : Nat → List (Option Nat), Φ τ2 → (∀ t, (Nat.ble 100 t && ch t) = false → τ2 t = τ t) → ∀ (y : Option Int32) h2, Q (tauC τ tm) (tauC τ2 tm) y → all2 (gC ρ0 τ2) H2 h2 → match y with | none => k L rest h2 | some v => k L (.inl v :: rest) h2) : o_call M (some ci) n ρs k L st h := by
  have hG : gG ρ0 ([] : List (Int × Int)) := fun _ _ _ e => by cases e
  obtain ⟨H3, hw, hw2⟩ := subH_ok hw
  simp only [Bool.and_eq_true] at hc
  obtain ⟨⟨⟨g2, g2'⟩, g3⟩, g5⟩ := hc
  unfold o_call
  apply hp
  obtain ⟨e, he, hge⟩ := all2_nth hh ha
  rcases e with ⟨t', n', f⟩ | ⟨ci', fs'⟩
  · exact hge.elim
  obtain ⟨rfl, _⟩ := hge
  unfold rcK
  dsimp only
  rw [he]
  dsimp only
  rw [Nat.beq_refl]
  refine ⟨by rw [all2_len hh, g2, g2', hl]; rfl, g3, pick_in hG hh g5 (fun hc hhc => ?_)⟩
  have ea : (rfC a :: (as.map rfC ++ xs.map (Sum.inl : Int32 → PV))).map (un1 ρs) = rs.map rfC ++ xs.map .inl := by
    have e1 := un1_refs ρs (a :: as) rs hq
    rw [List.map_cons] at e1
    rw [List.map_cons, List.map_append, un1_ints, ← List.cons_append, ← List.map_cons (f := un1 ρs), e1]
  rw [unL_eq, ea]
  refine ⟨_, hC (tauC τ tm) (Φ_tau hΦ) hPre hc hhc, fun r' h' hpost => ?_⟩
  obtain ⟨τ', y, p1, p2, rfl, pQ, p4⟩ := hpost
  have p2' : ∀ t, Nat.ble 100 t = false → τ' t = tauC τ tm t := fun t ht => p2 t (by rw [ht]; rfl)
  have et : tauC (fun t => match Nat.ble 100 t with | true => τ' t | false => τ t) tm = τ' := tau2 p2' (fun t ht => by rw [ht]) (fun t ht => by rw [ht]) hb
  rw [← et] at p4 pQ
  have p1' : Φ (fun t => match Nat.ble 100 t with | true => τ' t | false => τ t) := p1
  have p3' : ∀ t, (Nat.ble 100 t && ch t) = false → (fun t => match Nat.ble 100 t with | true => τ' t | false => τ t) t = τ t := fun t ht => by
    dsimp only
    cases h1 : Nat.ble 100 t
    · rfl
    · exact (p2 t ht).trans (tauC_hi h1)
  refine wb_in ρs C' (H.map (wxC ch)) H3 h' h _ hw p4 (wxH_ok p3' hok hh) (fun h2' hh2 => ?_)
  have fin := hk _ p1' p3' y h2' pQ (all2b_imp (leC_ok hG) hw2 hh2)
  cases y with
  | none => exact fin
  | some v => exact fin

