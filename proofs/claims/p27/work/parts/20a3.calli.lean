/-! ===== calls that change nothing ===== -/
theorem re1_un1 {ρ : List Nat} {nh : Nat} (hρ : ρ.length ≤ 1000) (v : PV) : re1 ρ 0 nh (un1 ρ v) = v := by
  rcases v with x | _ | a | t
  · rfl
  · rfl
  · unfold un1
    dsimp only
    split
    · rename_i i hi
      have h2 := (posq_some ρ a 0 i hi).2
      rw [Nat.sub_zero, ← nth_eq] at h2
      unfold re1
      dsimp only
      rw [h2]
    · split
      · rename_i hb
        have hb := Nat.ble_eq.mp hb
        have h2 : nth ρ a = none := by rw [nth_eq]; exact List.getElem?_eq_none (by omega)
        have h3 : Nat.blt a (ρ.length + 0) = false := by
          rw [Bool.eq_false_iff]
          intro z
          have := Nat.blt_eq.mp z
          omega
        unfold re1
        dsimp only
        rw [h2]
        dsimp only
        rw [h3]
      · rfl
  · rfl
theorem re2_un2 {ρ : List Nat} {nh : Nat} (hρ : ρ.length ≤ 1000) (e : PE) : re2 ρ 0 nh (un2 ρ e) = e := by
  rcases e with x | ⟨ci, fs⟩
  · rfl
  · show Sum.inr (ci, (fs.map (un1 ρ)).map (re1 ρ 0 nh)) = _
    rw [List.map_map, show re1 ρ 0 nh ∘ un1 ρ = id from funext (re1_un1 hρ), List.map_id]
theorem put_same {α : Type} : ∀ {l : List α} {i : Nat} {v : α} {k : List α → Prop}, nth l i = some v → k l → put l i v k
  | [], _, _, _, h, _ => by cases h
  | x :: l, 0, v, k, h, hk => by
    cases h
    exact hk
  | x :: l, n + 1, v, k, h, hk => put_same (l := l) (i := n) (v := v) (k := fun l' => k (x :: l')) h hk
theorem wb_same {ρ : List Nat} {nh : Nat} {h : PH} {k : PH → Prop} (hρ : ρ.length ≤ 1000) (hk : k h) : ∀ (r : List Nat) (hc : PH), hc.length = r.length → (∀ (i a : Nat), r[i]? = some a → ∃ e, h[a]? = some e ∧ hc[i]? = some (un2 ρ e)) → wbK ρ 0 nh r hc h k
  | [], [], _, _ => hk
  | [], _ :: _, e, _ => by cases e
  | _ :: _, [], e, _ => by cases e
  | a :: r, e :: hc, el, hi => by
    obtain ⟨e', h1, h2⟩ := hi 0 a rfl
    have h3 : e = un2 ρ e' := Option.some.inj h2
    subst h3
    unfold wbK
    rw [reE_eq, re2_un2 hρ]
    exact put_same (by rw [nth_eq]; exact h1) (wb_same hρ hk r hc (Nat.succ.inj el) (fun i b hb => hi (i + 1) b hb))
theorem pick_of {ρ : List Nat} {h : PH} : ∀ (r : List Nat) (hc : PH) (k : PH → Prop), hc.length = r.length → (∀ (i a : Nat), r[i]? = some a → ∃ e, h[a]? = some e ∧ hc[i]? = some (un2 ρ e)) → k hc → pick ρ h r k
  | [], [], _, _, _, hk => hk
  | [], _ :: _, _, e, _, _ => by cases e
  | _ :: _, [], _, e, _, _ => by cases e
  | a :: r, e :: hc, k, el, hi, hk => by
    obtain ⟨e', h1, h2⟩ := hi 0 a rfl
    have h3 : e = un2 ρ e' := Option.some.inj h2
    subst h3
    unfold pick
    rw [nth_eq, h1]
    dsimp only
    rw [unE_eq]
    exact pick_of r hc (fun l => k (un2 ρ e' :: l)) (Nat.succ.inj el) (fun i b hb => hi (i + 1) b hb) hk
def conOkI (M : List PV → PH → (Option PV → PH → Prop) → Prop) (xs : List Int32) (v : Int32) (C : List AC) (Pre : (Nat → List (Option Nat)) → Prop) : Prop := ∀ (τ : Nat → List (Option Nat)), Φ τ → Pre τ → ∀ (h : PH), all2 (gC ρ0 τ) C h → M (.inr (some (.inl 0)) :: xs.map .inl) h (fun r h' => r = some (.inl v) ∧ h' = h)
theorem callSame {τ : Nat → List (Option Nat)} {M : List PV → PH → (Option PV → PH → Prop) → Prop} {xs : List Int32} {v : Int32} {C : List AC} {Pre : (Nat → List (Option Nat)) → Prop} {ci n a : Nat} {ρs : List Nat} {tm : List AV} {H : List AC} {k : Blk} {L : PL} {st rest : List PV} {h : PH} (hΦ : Φ τ) (hPre : Pre (tauC τ tm)) (hC : conOkI M xs v C Pre) (hh : all2 (gC ρ0 τ) H h) (hp : ∀ K : List PV → List PV → Prop, K (.inr (some (.inl a)) :: xs.map .inl) rest → popN n st [] K) (hl : Nat.ble rest.length 8 = true) (ha : nth H a = some (.inr (ci, (match nth H a with | some (.inr (_, fs)) => fs | _ => [])))) (hq : posq ρs a 0 = some 0) (hc : ((Nat.ble ρs.length 1000 && Nat.ble H.length 1000 && va_nd ρs) && mH [] ρs tm H C ρs) = true) (hk : k L (.inl v :: rest) h) : o_call M (some ci) n ρs k L st h := by
  have hG : gG ρ0 ([] : List (Int × Int)) := fun _ _ _ e => by cases e
  simp only [Bool.and_eq_true] at hc
  obtain ⟨⟨⟨g2, g2'⟩, g3⟩, g5⟩ := hc
  unfold o_call
  apply hp
  obtain ⟨e, he, hge⟩ := all2_nth hh ha
  rcases e with ⟨t', n', f⟩ | ⟨ci', fs'⟩
  · exact hge.elim
  obtain ⟨rfl, _⟩ := hge
  unfold rcK
  dsimp only
  rw [he]
  dsimp only
  rw [Nat.beq_refl]
  obtain ⟨hc, hhc, e1, e2⟩ := pick_spec ρs h ρs _ (pick_in (k := fun hc => all2 (gC ρ0 (tauC τ tm)) C hc) hG hh g5 (fun hc hhc => hhc))
  refine ⟨by rw [all2_len hh, g2, g2', hl]; rfl, g3, pick_of ρs hc _ e1 e2 ?_⟩
  rw [unL_eq, List.map_cons, un1_ints]
  have e0 : un1 ρs (.inr (some (.inl a))) = .inr (some (.inl 0)) := by
    unfold un1
    dsimp only
    rw [hq]
  rw [e0]
  refine ⟨_, hC (tauC τ tm) (Φ_tau hΦ) hPre hc hhc, fun r' h' hpost => ?_⟩
  obtain ⟨rfl, rfl⟩ := hpost
  exact wb_same (Nat.ble_eq.mp g2) hk ρs _ e1 e2

