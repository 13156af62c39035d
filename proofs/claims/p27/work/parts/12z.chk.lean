/-! ===== a block as a list of nodes; its meaning; its check ===== -/
abbrev Nd : Type := Nat × List Int × List Nat
abbrev MT : Type := List PV → PH → (Option PV → PH → Prop) → Prop
def nI0 (nd : Nd) (i : Nat) : Int := match nth nd.2.1 i with
  | some x => x
  | none => 0
def nN0 (nd : Nd) (i : Nat) : Nat := match nth nd.2.2 i with
  | some x => x
  | none => 0
def drp : Nat → List Nat → List Nat
  | 0, l => l
  | _ + 1, [] => []
  | n + 1, _ :: l => drp n l
def tmO (l : List Int) : List AV := match l with
  | [] => []
  | .ofNat p :: r => .inr (.inr (some (.inl p))) :: tmO r
  | .negSucc t :: r => .inr (.inr (some (.inr t))) :: tmO r
def Bz : Blk := fun _ _ _ => False
def Mz : MT := fun _ _ _ => False
def getB (cuts : List Blk) (j : Nat) : Blk := match nth cuts j with
  | some b => b
  | none => Bz
def getM (Ms : List MT) (j : Nat) : MT := match nth Ms j with
  | some b => b
  | none => Mz
def rcO (n : Nat) : Option Nat := match n with
  | 0 => none
  | n + 1 => some n
def nodeB (cuts : List Blk) (Ms Mg : List MT) (Rv : Option PV → PH → Prop) (nd : Nd) (D : Nat → Blk) : Blk := match nd.1 with
  | 0 => o_push (.inl (pI (nI0 nd 0))) (D (nN0 nd 0))
  | 1 => o_iload (nN0 nd 1) (D (nN0 nd 0))
  | 2 => o_aload (nN0 nd 1) (D (nN0 nd 0))
  | 3 => o_istore (nN0 nd 1) (D (nN0 nd 0))
  | 4 => o_astore (nN0 nd 1) (D (nN0 nd 0))
  | 5 => o_iinc (nN0 nd 1) (pI (nI0 nd 0)) (D (nN0 nd 0))
  | 6 => o_bin (fB (nN0 nd 1)) (D (nN0 nd 0))
  | 7 => o_un (fU (nN0 nd 1)) (D (nN0 nd 0))
  | 8 => o_div (D (nN0 nd 0))
  | 9 => o_rem (D (nN0 nd 0))
  | 10 => o_if (fun x => cB (nN0 nd 2) x 0) (D (nN0 nd 0)) (D (nN0 nd 1))
  | 11 => o_icmp (cB (nN0 nd 2)) (D (nN0 nd 0)) (D (nN0 nd 1))
  | 12 => o_swc (pI (nI0 nd 0)) (D (nN0 nd 0)) (D (nN0 nd 1))
  | 13 => o_swd (D (nN0 nd 0))
  | 14 => o_dup (D (nN0 nd 0))
  | 15 => o_dup2 (D (nN0 nd 0))
  | 16 => o_dupx1 (D (nN0 nd 0))
  | 17 => o_pop (D (nN0 nd 0))
  | 18 => o_getf (drp 2 nd.2.2) (nN0 nd 1) (D (nN0 nd 0))
  | 19 => o_putf (drp 3 nd.2.2) (nN0 nd 1) (nN0 nd 2) (D (nN0 nd 0))
  | 20 => o_ald (drp 1 nd.2.2) (D (nN0 nd 0))
  | 21 => o_ast (drp 1 nd.2.2) (D (nN0 nd 0))
  | 22 => o_alen (D (nN0 nd 0))
  | 23 => o_vret Rv
  | 24 => o_iret Rv
  | 25 => o_zret Rv
  | 26 => o_call (getM Ms (nN0 nd 1)) (rcO (nN0 nd 2)) (nN0 nd 3) (drp 4 nd.2.2) (D (nN0 nd 0))
  | 27 => getB cuts (nN0 nd 0)
  | 28 => o_mmax (D (nN0 nd 0))
  | 29 => o_mmin (D (nN0 nd 0))
  | 30 => o_mabs (D (nN0 nd 0))
  | 31 => o_call (getM Mg (nN0 nd 2)) (rcO (nN0 nd 3)) (nN0 nd 4) (drp 5 nd.2.2) (o_if (fun x => cB 0 x 0) (D (nN0 nd 0)) (D (nN0 nd 1)))
  | 32 => o_if (fun x => cB 0 x 0) (D (nN0 nd 0)) (D (nN0 nd 1))
  | 33 => o_acopy (D (nN0 nd 0))
  | 34 => o_callL (getM Ms (nN0 nd 1)) [3, 5, 8] (nN0 nd 3) (drp 4 nd.2.2) (D (nN0 nd 0))
  | 35 => o_ldcs (D (nN0 nd 0))
  | 36 => o_kcoder (D (nN0 nd 0))
  | 37 => o_kvalue (D (nN0 nd 0))
  | 38 => o_klen (D (nN0 nd 0))
  | 39 => o_kbald (D (nN0 nd 0))
  | 40 => o_callK (getM Ms (nN0 nd 1)) (nN0 nd 3) (D (nN0 nd 0))
  | _ => Bz
abbrev Me : Type := Int × List (Int × Nat × Nat)
abbrev Gd : Type := GCn × Nat × Int × Int
def isN (GR : Option (Int × Int)) : Bool := match GR with
  | none => true
  | some _ => false
def a_rg (GR : Option (Int × Int)) (σ : Sg) : Bool := match GR with
  | none => true
  | some (lo, hi) => match σ.2.2.2.1 with
    | [a] => insA σ.1 0 0 a || (match ubF σ.1 σ.2.1.2, ubF σ.1 (subF [] σ.2.1.2) with
      | some u, some u2 => ile (σ.2.1.1 + u) hi && ile lo (σ.2.1.1 - u2)
      | _, _ => false)
    | _ => false
def gRG (GR : Option (Int × Int)) (m0 : Int) (r : Option PV) : Prop := ∀ g, GR = some g → ∀ x : Int32, r = some (.inl x) → ¬ x = 0 → g.1 ≤ m0 ∧ m0 ≤ g.2
theorem s_zretG {τ : Nat → List (Option Nat)} {m0 : Int} {Rv : Option PV → PH → Prop} {RS : List (Option (Int × Int) × List AC)} {GR : Option (Int × Int)} (hR : ∀ r h' q, q ∈ RS → gR q.1 r → all2 (gC ρ0 τ) q.2 h' → gRG GR m0 r → Rv r h') (σ : Sg) (h : anyR (a_ri true σ) RS = true) (hg : a_rg GR σ = true) : Sf τ m0 (o_zret Rv) σ := by
  intro ρ L st hp hS
  obtain ⟨x, q, rfl, g1, g2, g3, g4⟩ := s_ri hS h
  refine And.intro (g4 rfl) (hR _ hp q g1 g2 g3 (fun g eg x' ex hx => ?_))
  cases ex
  subst eg
  obtain ⟨G, F, La, sa, Ha⟩ := σ
  obtain ⟨hG, hF, h1, h2, h3⟩ := hS
  rcases sa with _ | ⟨a, _ | ⟨b, r⟩⟩
  · exact h2.elim
  · have hg : (insA G 0 0 a || (match ubF G F.2, ubF G (subF [] F.2) with | some u, some u2 => ile (F.1 + u) g.2 && ile g.1 (F.1 - u2) | _, _ => false)) = true := hg
    rw [Bool.or_eq_true] at hg
    rcases hg with hg | hg
    · obtain ⟨x', e', hx'⟩ := insA_ok hG hg h2.1
      cases e'
      exact absurd (i32eq.mpr (show x.toInt = 0 by omega)) hx
    · split at hg
      · rename_i u u2 e2 e3
        rw [Bool.and_eq_true] at hg
        have g5 := of_decide_eq_true hg.1
        have g6 := of_decide_eq_true hg.2
        have a2 := ubF_ok hG _ _ e2
        have a3 := ubF_ok hG _ _ e3
        rw [evF_sub] at a3
        have a4 : evF ρ [] = 0 := rfl
        have hF : m0 = F.1 + evF ρ F.2 := hF
        exact ⟨by omega, by omega⟩
      · cases hg
  · exact h2.2.elim
def nodeC (CE : List (Tg × Me)) (ms : Bool) (CS : List Con) (GS : List Gd) (GR : Option (Int × Int)) (RS : List (Option (Int × Int) × List AC)) (nd : Nd) (D : Nat → Sg → Bool) (σ : Sg) : Bool := match nd.1 with
  | 0 => a_push (pI (nI0 nd 0)) (nI0 nd 0) (D (nN0 nd 0)) σ
  | 1 => a_iload (nN0 nd 1) (D (nN0 nd 0)) σ
  | 2 => a_aload (nN0 nd 1) (D (nN0 nd 0)) σ
  | 3 => a_istore (nN0 nd 1) (D (nN0 nd 0)) σ
  | 4 => a_astore (nN0 nd 1) (D (nN0 nd 0)) σ
  | 5 => a_iinc (nN0 nd 1) (pI (nI0 nd 0)) (nI0 nd 0) (D (nN0 nd 0)) σ
  | 6 => a_bin (nN0 nd 1) (D (nN0 nd 0)) σ
  | 7 => a_un (nN0 nd 1) (D (nN0 nd 0)) σ
  | 8 => a_div (D (nN0 nd 0)) σ
  | 9 => a_rem (D (nN0 nd 0)) σ
  | 10 => a_if (nN0 nd 2) (D (nN0 nd 0)) (D (nN0 nd 1)) σ
  | 11 => a_icmp (nN0 nd 2) (D (nN0 nd 0)) (D (nN0 nd 1)) σ
  | 12 => a_swc (pI (nI0 nd 0)) (nI0 nd 0) (D (nN0 nd 0)) (D (nN0 nd 1)) σ
  | 13 => a_swd (D (nN0 nd 0)) σ
  | 14 => a_dup (D (nN0 nd 0)) σ
  | 15 => a_dup2 (D (nN0 nd 0)) σ
  | 16 => a_dupx1 (D (nN0 nd 0)) σ
  | 17 => a_pop (D (nN0 nd 0)) σ
  | 18 => a_getf (drp 2 nd.2.2) (nN0 nd 1) (D (nN0 nd 0)) σ
  | 19 => a_putf (drp 3 nd.2.2) (nN0 nd 1) (nN0 nd 2) (D (nN0 nd 0)) σ
  | 20 => a_ald (drp 1 nd.2.2) (D (nN0 nd 0)) σ
  | 21 => a_ast (drp 1 nd.2.2) (D (nN0 nd 0)) σ
  | 22 => a_alen (D (nN0 nd 0)) σ
  | 23 => isN GR && anyR (a_rv σ) RS
  | 24 => isN GR && anyR (a_ri false σ) RS
  | 25 => a_rg GR σ && anyR (a_ri true σ) RS
  | 26 => match nth CS (nN0 nd 1) with
    | some C => a_call C (rcO (nN0 nd 2)) (nN0 nd 3) (drp 4 nd.2.2) (tmO nd.2.1) (D (nN0 nd 0)) σ
    | none => false
  | 27 => match nth CE (nN0 nd 0) with
    | some q => a_cut q.1 q.2 ms σ
    | none => false
  | 28 => a_mmax (D (nN0 nd 0)) σ
  | 29 => a_mmin (D (nN0 nd 0)) σ
  | 30 => a_mabs (D (nN0 nd 0)) σ
  | 31 => match nth GS (nN0 nd 2) with
    | some g => a_guard g.1 g.2.1 g.2.2.1 g.2.2.2 (rcO (nN0 nd 3)) (nN0 nd 4) (drp 5 nd.2.2) (tmO nd.2.1) (D (nN0 nd 0)) (D (nN0 nd 1)) σ
    | none => false
  | 32 => a_ifs (D (nN0 nd 0)) (D (nN0 nd 1)) σ
  | 33 => a_acopy (D (nN0 nd 0)) σ
  | 34 => match nth CS (nN0 nd 1) with
    | some C => a_callL C [3, 5, 8] (nN0 nd 3) (drp 4 nd.2.2) (tmO nd.2.1) (D (nN0 nd 0)) σ
    | none => false
  | 35 => a_ldcs (D (nN0 nd 0)) σ
  | 36 => a_k1 1000000 (.inl (0, 0)) (D (nN0 nd 0)) σ
  | 37 => a_k1 1000000 (.inr (.inr (some (.inl 1000001)))) (D (nN0 nd 0)) σ
  | 38 => a_k1 1000001 (.inl (9, 9)) (D (nN0 nd 0)) σ
  | 39 => a_kbald (D (nN0 nd 0)) σ
  | 40 => match nth CS (nN0 nd 1) with
    | some C => a_callK C (nN0 nd 3) (tmO nd.2.1) (D (nN0 nd 0)) σ
    | none => false
  | _ => false
def den (P : List Nd) (cuts : List Blk) (Ms Mg : List MT) (Rv : Option PV → PH → Prop) : Nat → Nat → Blk
  | 0, _ => Bz
  | q + 1, x => match nth P x with
    | some nd => nodeB cuts Ms Mg Rv nd (den P cuts Ms Mg Rv q)
    | none => Bz
def chk (P : List Nd) (CE : List (Tg × Me)) (ms : Bool) (CS : List Con) (GS : List Gd) (GR : Option (Int × Int)) (RS : List (Option (Int × Int) × List AC)) : Nat → Nat → Sg → Bool
  | 0, _, _ => false
  | q + 1, x, σ => match nth P x with
    | some nd => nodeC CE ms CS GS GR RS nd (chk P CE ms CS GS GR RS q) σ
    | none => false
section CHK
variable {τ : Nat → List (Option Nat)} {m0 : Int} {P : List Nd} {cuts : List Blk} {Ms Mg : List MT} {Rv : Option PV → PH → Prop} {CE : List (Tg × Me)} {ms : Bool} {CS : List Con} {GS : List Gd} {GR : Option (Int × Int)} {RS : List (Option (Int × Int) × List AC)}
theorem node_ok (hΦ : Φ τ) (hcut : ∀ j q, nth CE j = some q → ∀ L st h, gI τ q.1 L st h → (ms = true → q.2.1 + meV L h q.2.2 < m0 ∧ 1 ≤ m0) → getB cuts j L st h) (hcall : ∀ j C, nth CS j = some C → conOk (getM Ms j) C) (hgd : ∀ j g, nth GS j = some g → gconOk (getM Mg j) g.1 g.2.1 g.2.2.1 g.2.2.2) (hR : ∀ r h' q, q ∈ RS → gR q.1 r → all2 (gC ρ0 τ) q.2 h' → gRG GR m0 r → Rv r h') {D : Nat → Blk} {D' : Nat → Sg → Bool} (hD : ∀ x σ, D' x σ = true → Sf τ m0 (D x) σ) (nd : Nd) (σ : Sg) (h : nodeC CE ms CS GS GR RS nd D' σ = true) : Sf τ m0 (nodeB cuts Ms Mg Rv nd D) σ := by
  obtain ⟨op, is, ns⟩ := nd
  match op, h with
  | 0, h => exact s_push (hD _) σ h
  | 1, h => exact s_iload (hD _) σ h
  | 2, h => exact s_aload (hD _) σ h
  | 3, h => exact s_istore (hD _) σ h
  | 4, h => exact s_astore (hD _) σ h
  | 5, h => exact s_iinc (hD _) σ h
  | 6, h => exact s_bin (hD _) σ h
  | 7, h => exact s_un (hD _) σ h
  | 8, h => exact s_div (hD _) σ h
  | 9, h => exact s_rem (hD _) σ h
  | 10, h => exact s_if (hD _) (hD _) σ h
  | 11, h => exact s_icmp (hD _) (hD _) σ h
  | 12, h => exact s_swc (hD _) (hD _) σ h
  | 13, h => exact s_swd (hD _) σ h
  | 14, h => exact s_dup (hD _) σ h
  | 15, h => exact s_dup2 (hD _) σ h
  | 16, h => exact s_dupx1 (hD _) σ h
  | 17, h => exact s_pop (hD _) σ h
  | 18, h => exact s_getf (hD _) σ h
  | 19, h => exact s_putf (hD _) σ h
  | 20, h => exact s_ald (hD _) σ h
  | 21, h => exact s_ast (hD _) σ h
  | 22, h => exact s_alen (hD _) σ h
  | 23, h =>
    have h : (isN GR && anyR (a_rv σ) RS) = true := h
    rw [Bool.and_eq_true] at h
    cases GR with
    | none => exact s_vret (fun r h' q hq h1 h2 => hR r h' q hq h1 h2 (fun g eg => by cases eg)) σ h.2
    | some g => exact Bool.noConfusion (h.1 : false = true)
  | 24, h =>
    have h : (isN GR && anyR (a_ri false σ) RS) = true := h
    rw [Bool.and_eq_true] at h
    cases GR with
    | none => exact s_iret (fun r h' q hq h1 h2 => hR r h' q hq h1 h2 (fun g eg => by cases eg)) σ h.2
    | some g => exact Bool.noConfusion (h.1 : false = true)
  | 25, h =>
    have h : (a_rg GR σ && anyR (a_ri true σ) RS) = true := h
    rw [Bool.and_eq_true] at h
    exact s_zretG hR σ h.2 h.1
  | 26, h =>
    have h : (match nth CS (nN0 (26, is, ns) 1) with | some C => a_call C (rcO (nN0 (26, is, ns) 2)) (nN0 (26, is, ns) 3) (drp 4 ns) (tmO is) (D' (nN0 (26, is, ns) 0)) σ | none => false) = true := h
    split at h
    · rename_i C e; exact s_call hΦ (hcall _ C e) (hD _) σ h
    · cases h
  | 27, h =>
    have h : (match nth CE (nN0 (27, is, ns) 0) with | some q => a_cut q.1 q.2 ms σ | none => false) = true := h
    split at h
    · rename_i q e; exact s_cut (hcut _ q e) σ h
    · cases h
  | 28, h => exact s_mmax (hD _) σ h
  | 29, h => exact s_mmin (hD _) σ h
  | 30, h => exact s_mabs (hD _) σ h
  | 31, h =>
    have h : (match nth GS (nN0 (31, is, ns) 2) with | some g => a_guard g.1 g.2.1 g.2.2.1 g.2.2.2 (rcO (nN0 (31, is, ns) 3)) (nN0 (31, is, ns) 4) (drp 5 ns) (tmO is) (D' (nN0 (31, is, ns) 0)) (D' (nN0 (31, is, ns) 1)) σ | none => false) = true := h
    split at h
    · rename_i g e; exact s_guard hΦ (hgd _ g e) (hD _) (hD _) σ h
    · cases h
  | 32, h => exact s_ifs (hD _) (hD _) σ h
  | 33, h => exact s_acopy (hD _) σ h
  | 34, h =>
    have h : (match nth CS (nN0 (34, is, ns) 1) with | some C => a_callL C [3, 5, 8] (nN0 (34, is, ns) 3) (drp 4 ns) (tmO is) (D' (nN0 (34, is, ns) 0)) σ | none => false) = true := h
    split at h
    · rename_i C e; exact s_callL hΦ (hcall _ C e) (hD _) σ h
    · cases h
  | 35, h => exact s_ldcs (hD _) σ h
  | 36, h => exact s_kcoder (hD _) σ h
  | 37, h => exact s_kvalue (hD _) σ h
  | 38, h => exact s_klen (hD _) σ h
  | 39, h => exact s_kbald (hD _) σ h
  | 40, h =>
    have h : (match nth CS (nN0 (40, is, ns) 1) with | some C => a_callK C (nN0 (40, is, ns) 3) (tmO is) (D' (nN0 (40, is, ns) 0)) σ | none => false) = true := h
    split at h
    · rename_i C e; exact s_callK hΦ (hcall _ C e) (hD _) σ h
    · cases h
  | _ + 41, h => cases h
theorem chk_ok (hΦ : Φ τ) (hcut : ∀ j q, nth CE j = some q → ∀ L st h, gI τ q.1 L st h → (ms = true → q.2.1 + meV L h q.2.2 < m0 ∧ 1 ≤ m0) → getB cuts j L st h) (hcall : ∀ j C, nth CS j = some C → conOk (getM Ms j) C) (hgd : ∀ j g, nth GS j = some g → gconOk (getM Mg j) g.1 g.2.1 g.2.2.1 g.2.2.2) (hR : ∀ r h' q, q ∈ RS → gR q.1 r → all2 (gC ρ0 τ) q.2 h' → gRG GR m0 r → Rv r h') : ∀ (q x : Nat) (σ : Sg), chk P CE ms CS GS GR RS q x σ = true → Sf τ m0 (den P cuts Ms Mg Rv q x) σ
  | 0, x, σ, h => by cases h
  | q + 1, x, σ, h => by
    unfold chk at h
    unfold den
    split at h
    · rename_i nd e
      exact node_ok hΦ hcut hcall hgd hR (fun y σ' h' => chk_ok hΦ hcut hcall hgd hR q y σ' h') nd σ h
    · cases h
/-! entering a block -/
def setS (σ : Sg) (a j : Nat) (v : AV) : Sg := match a with
  | 0 => sL σ (setl σ.2.2.1 j (some v))
  | a + 1 => match nth σ.2.2.2.2 a with
    | some (.inr (ci, fs)) => sH σ (setl σ.2.2.2.2 a (.inr (ci, setl fs j v)))
    | _ => σ
def nmS (a j : Nat) (K : Sg → Bool) (σ : Sg) : Bool := match slotA σ a j with
  | some av => frs σ av (fun σ' av' => K (setS σ' a j av'))
  | none => false
def ents : List (Nat × Nat) → (Sg → Bool) → Sg → Bool
  | [], K, σ => K σ
  | (a, j) :: r, K, σ => nmS a j (ents r K) σ
theorem nmS_ok {ρ : Nat → Int} {L : PL} {st : List PV} {h : PH} {K : Sg → Bool} {a j : Nat} {σ : Sg} (hS : gS ρ τ m0 σ L st h) (hk : nmS a j K σ = true) : ∃ ρ' σ', K σ' = true ∧ gS ρ' τ m0 σ' L st h := by
  unfold nmS at hk
  split at hk
  · rename_i av e
    cases a with
    | zero =>
      unfold slotA at e
      dsimp only at e
      split at e
      · rename_i v hv
        cases e
        obtain ⟨w, hw, hgw⟩ := all2_nth hS.2.2.1 hv
        cases w with
        | none => exact hgw.elim
        | some w =>
          obtain ⟨ρ', G', a', hk', ⟨hG, hF, h1, h2, h3⟩, hv'⟩ := frs_ok hS hgw hk
          exact ⟨ρ', _, hk', hG, hF, all2_setl (R := gO ρ' τ) (a := some a') (b := some w) hv' h1 hw, h2, h3⟩
      · cases e
    | succ a =>
      unfold slotA at e
      dsimp only at e
      split at e
      · rename_i ci fs hc
        obtain ⟨w, hw, hgw⟩ := all2_nth hS.2.2.2.2 hc
        rcases w with ⟨t', n', f⟩ | ⟨ci', fs'⟩
        · exact hgw.elim
        · obtain ⟨x, hx, hgx⟩ := all2_nth hgw.2 e
          obtain ⟨ρ', G', a', hk', ⟨hG, hF, h1, h2, h3⟩, hv'⟩ := frs_ok hS hgx hk
          obtain ⟨w2, hw2, hgw2⟩ := all2_nth h3 hc
          rw [hw] at hw2
          cases hw2
          refine ⟨ρ', _, hk', ?_⟩
          unfold setS
          dsimp only
          rw [hc]
          exact ⟨hG, hF, h1, h2, all2_setl (R := gC ρ' τ) (a := .inr (ci, setl fs j a')) (b := .inr (ci', fs')) ⟨hgw2.1, all2_setl hv' hgw2.2 hx⟩ h3 hw⟩
      · cases e
  · cases hk
theorem ents_ok {L : PL} {st : List PV} {h : PH} {K : Sg → Bool} : ∀ (l : List (Nat × Nat)) (ρ : Nat → Int) (σ : Sg), gS ρ τ m0 σ L st h → ents l K σ = true → ∃ ρ' σ', K σ' = true ∧ gS ρ' τ m0 σ' L st h
  | [], ρ, σ, hS, hk => ⟨ρ, σ, hk, hS⟩
  | (a, j) :: r, ρ, σ, hS, hk => by
    obtain ⟨ρ', σ', h1, h2⟩ := nmS_ok hS hk
    exact ents_ok r ρ' σ' h2 h1
def blkC (T : Tg) (M : Me) (sl : List (Nat × Nat)) (K : Sg → Bool) : Bool := ents sl (fun σ => match linE σ M.2 with
  | some (c, l) => K (σ.1, (M.1 + c, l), σ.2.2)
  | none => false) ([], (0, []), T)
theorem blk_ok {T : Tg} {M : Me} {sl : List (Nat × Nat)} {K : Sg → Bool} {B : Blk} {L : PL} {st : List PV} {h : PH} (hI : gI τ T L st h) (hc : blkC T M sl K = true) (hK : ∀ σ, K σ = true → Sf τ (M.1 + meV L h M.2) B σ) : B L st h := by
  have hS : gS ρ0 τ 0 ([], (0, []), T) L st h := ⟨fun k lo hi hk => (by cases hk), rfl, hI.1, hI.2.1, hI.2.2⟩
  obtain ⟨ρ', σ', h1, h2⟩ := ents_ok sl ρ0 _ hS hc
  split at h1
  · rename_i c l e
    have e1 := linE_ok h2 _ _ _ e
    exact hK _ h1 ρ' L st h ⟨h2.1, by show M.1 + meV L h M.2 = M.1 + c + evF ρ' l; omega, h2.2.2⟩
  · cases h1
def Jc (τ : Nat → List (Option Nat)) (q : Tg × Me) (μ : Nat) : Blk := fun L st h => gI τ q.1 L st h ∧ (q.2.1 + meV L h q.2.2).toNat = μ
def cutE (τ : Nat → List (Option Nat)) : List (Tg × Me) → List Blk
  | [] => []
  | q :: r => exb (Jc τ q) :: cutE τ r
def cutL (τ : Nat → List (Option Nat)) (μ : Nat) : List (Tg × Me) → List Blk
  | [] => []
  | q :: r => ltb (Jc τ q) μ :: cutL τ μ r
theorem cutE_nth : ∀ (l : List (Tg × Me)) (j : Nat) (q : Tg × Me), nth l j = some q → getB (cutE τ l) j = exb (Jc τ q)
  | [], _, _, h => by cases h
  | _ :: _, 0, _, h => by cases h; rfl
  | _ :: l, j + 1, q, h => cutE_nth l j q h
theorem cutL_nth {μ : Nat} : ∀ (l : List (Tg × Me)) (j : Nat) (q : Tg × Me), nth l j = some q → getB (cutL τ μ l) j = ltb (Jc τ q) μ
  | [], _, _, h => by cases h
  | _ :: _, 0, _, h => by cases h; rfl
  | _ :: l, j + 1, q, h => cutL_nth l j q h
theorem void_cut {τ : Nat → List (Option Nat)} {μ : Nat} {L : PL} {st : List PV} {h : PH} {B : Prop} (hJ : Jc τ (([some (.inl (1, 0))], [], []), (0, [])) μ L st h) : B := by
  obtain ⟨⟨h1, _⟩, _⟩ := hJ
  obtain ⟨v, y, rfl, hv, _⟩ := all2_cons h1
  cases v with
  | none => exact hv.elim
  | some v =>
    obtain ⟨x, rfl, hx⟩ := hv
    have := hx.1
    have := hx.2
    omega
/-- the block at the method's door -/
theorem run0 {T : Tg} {M : Me} {sl : List (Nat × Nat)} {q x : Nat} {L : PL} {st : List PV} {h : PH} (hΦ : Φ τ) (hcall : ∀ j C, nth CS j = some C → conOk (getM Ms j) C) (hgd : ∀ j g, nth GS j = some g → gconOk (getM Mg j) g.1 g.2.1 g.2.2.1 g.2.2.2) (hR : ∀ r h' q, q ∈ RS → gR q.1 r → all2 (gC ρ0 τ) q.2 h' → gRG GR (M.1 + meV L h M.2) r → Rv r h') (hI : gI τ T L st h) (hc : blkC T M sl (chk P CE false CS GS GR RS q x) = true) : den P (cutE τ CE) Ms Mg Rv q x L st h := by
  refine blk_ok hI hc (fun σ hσ => chk_ok (ms := false) hΦ (fun j q' e L st h hg _ => ?_) hcall hgd hR q x σ hσ)
  rw [cutE_nth CE j q' e]
  exact ⟨_, hg, rfl⟩
/-- a block with cuts of one's own -/
theorem runG {T : Tg} {sl : List (Nat × Nat)} {q x : Nat} {L : PL} {st : List PV} {h : PH} (hΦ : Φ τ) (hcut : ∀ j q, nth CE j = some q → ∀ L st h, gI τ q.1 L st h → getB cuts j L st h) (hcall : ∀ j C, nth CS j = some C → conOk (getM Ms j) C) (hgd : ∀ j g, nth GS j = some g → gconOk (getM Mg j) g.1 g.2.1 g.2.2.1 g.2.2.2) (hR : ∀ r h' q, q ∈ RS → gR q.1 r → all2 (gC ρ0 τ) q.2 h' → Rv r h') (hI : gI τ T L st h) (hc : blkC T (0, []) sl (chk P CE false CS GS none RS q x) = true) : den P cuts Ms Mg Rv q x L st h :=
  blk_ok hI hc (fun σ hσ => chk_ok (ms := false) hΦ (fun j q' e L st h hg _ => hcut j q' e L st h hg) hcall hgd (fun r h' q hq h1 h2 _ => hR r h' q hq h1 h2) q x σ hσ)
/-- the block at a cut -/
theorem runL {Q : Tg × Me} {sl : List (Nat × Nat)} {q x μ : Nat} {L : PL} {st : List PV} {h : PH} (hΦ : Φ τ) (hcall : ∀ j C, nth CS j = some C → conOk (getM Ms j) C) (hgd : ∀ j g, nth GS j = some g → gconOk (getM Mg j) g.1 g.2.1 g.2.2.1 g.2.2.2) (hR : ∀ r h' q, q ∈ RS → gR q.1 r → all2 (gC ρ0 τ) q.2 h' → Rv r h') (hJ : Jc τ Q μ L st h) (hc : blkC Q.1 Q.2 sl (chk P CE true CS GS none RS q x) = true) : den P (cutL τ μ CE) Ms Mg Rv q x L st h := by
  obtain ⟨hI, hμ⟩ := hJ
  refine blk_ok hI hc (fun σ hσ => chk_ok (ms := true) hΦ (fun j q' e L' st' h' hg hm => ?_) hcall hgd (fun r h' q hq h1 h2 _ => hR r h' q hq h1 h2) q x σ hσ)
  rw [cutL_nth CE j q' e]
  have hm := hm rfl
  exact ⟨_, by omega, hg, rfl⟩
theorem door {A : List AV} {as : List PV} {n : Nat} (ha : all2 (gV ρ0 τ) A as) : all2 (gO ρ0 τ) (A.map some ++ List.replicate (n - A.length) none) (enL as n) := by
  unfold enL
  rw [all2_len ha]
  generalize n - A.length = m
  induction A generalizing as with
  | nil =>
    cases as with
    | nil =>
      induction m with
      | zero => trivial
      | succ m ih => exact ⟨trivial, ih⟩
    | cons _ _ => exact ha.elim
  | cons a A ih =>
    cases as with
    | nil => exact ha.elim
    | cons v as => exact ⟨ha.1, ih ha.2⟩
theorem slot_door {as : List PV} {n i : Nat} {v : PV} {h : PH} (e : nth as i = some v) : slotV (enL as n) h 0 i = intV (some v) := by
  have e1 : nth (enL as n) i = some (some v) := by
    unfold enL
    generalize n - as.length = m
    clear h
    induction as generalizing i with
    | nil => cases e
    | cons a as ih =>
      cases i with
      | zero => cases e; rfl
      | succ i => exact ih e
  show (match nth (enL as n) i with | some v => intV v | _ => 0) = _
  rw [e1]
end CHK
/-! the guards -/
theorem w2 {C : Prop} [Decidable C] : 0 ≤ (bI C).toInt := by
  rcases bI_01 (p := C) with h | h <;> rw [h] <;> decide
theorem gd_within {l : Launch} (lo hi : Int) : gconOk (MetP l 0 yX11_within cX11_within 3 (some .boolean) 0 0) ([topA, .inl (lo, 2147483647), .inl (-2147483648, hi)], [], some (0, 1), []) 0 lo hi := by
  intro τ hΦ as h ha hh
  obtain ⟨a, as, rfl, hva, ha⟩ := all2_cons ha
  obtain ⟨b, as, rfl, hvb, ha⟩ := all2_cons ha
  obtain ⟨c, as, rfl, hvc, ha⟩ := all2_cons ha
  cases as with
  | cons _ _ => exact ha.elim
  | nil =>
    cases h with
    | cons _ _ => exact hh.elim
    | nil =>
      obtain ⟨x, rfl, hx⟩ := hva
      obtain ⟨y, rfl, hy⟩ := hvb
      obtain ⟨z, rfl, hz⟩ := hvc
      refine c_within.mono (fun r h' hp => ?_)
      obtain ⟨rfl, rfl⟩ := hp
      refine ⟨⟨_, rfl, w2⟩, trivial, fun x' v e hn ev => ?_⟩
      cases e
      cases ev
      have hp : y ≤ x ∧ x ≤ z := Classical.byContradiction fun q => hn (bI_f q)
      have q1 := Int32.le_iff_toInt_le.mp hp.1
      have q2 := Int32.le_iff_toInt_le.mp hp.2
      exact ⟨by omega, by omega⟩
theorem gd_isPlace {l : Launch} : gconOk (MetP l 1 yX11_isPlace cX11_isPlace 1 (some .boolean) 0 0) ([topA], [], some (0, 1), []) 0 0 383 := by
  intro τ hΦ as h ha hh
  obtain ⟨a, as, rfl, hva, ha⟩ := all2_cons ha
  cases as with
  | cons _ _ => exact ha.elim
  | nil =>
    cases h with
    | cons _ _ => exact hh.elim
    | nil =>
      obtain ⟨x, rfl, hx⟩ := hva
      refine c_isPlace.mono (fun r h' hp => ?_)
      obtain ⟨rfl, rfl⟩ := hp
      refine ⟨⟨_, rfl, w2⟩, trivial, fun x' v e hn ev => ?_⟩
      cases e
      cases ev
      have hp : 0 ≤ x ∧ x ≤ 383 := Classical.byContradiction fun q => hn (bI_f q)
      exact ⟨Int32.le_iff_toInt_le.mp hp.1, Int32.le_iff_toInt_le.mp hp.2⟩
