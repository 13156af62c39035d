/-! ===== stamps as both sides hold them ===== -/
/-- what a sheet leaves of them -/
def shQ (b : Nat → Nat) (n : Nat) (s s' : Int32) (mo mo' gr gr' : Nat → Int32) : Prop := (s' = s ∧ (∀ i, i < 48 → mo' i = mo i) ∧ (∀ i, i < 48 → gr' i = gr i) ∧ ∃ k a, shE b n (.inl (k, a))) ∨ (∃ c g, c ≤ 48 ∧ s' = nI c ∧ shE b n (.inr (c, g)) ∧ ∀ i, i < c → mo' i = nI (g i / 3) ∧ gr' i = nI (g i % 3))
def SRx (s s2 : Int32) (mo gr mo2 wh : Nat → Int32) : Prop := ∃ c, c ≤ 48 ∧ s = nI c ∧ s2 = nI c ∧ ∀ i, i < c → ∃ m w, m ≤ 7 ∧ w ≤ 2 ∧ mo i = nI m ∧ mo2 i = nI m ∧ gr i = nI w ∧ wh i = nI w
def SR (τ : Nat → List (Option Nat)) : Prop := SRx (decA (τ 204) 0) (decA (τ 205) 0) (decA (τ 255)) (decA (τ 256)) (decA (τ 257)) (decA (τ 258))
theorem SRx_up {b : Nat → Nat} {n : Nat} {s s2 s' s2' : Int32} {mo gr mo2 wh mo' gr' mo2' wh' : Nat → Int32} (h : SRx s s2 mo gr mo2 wh) (hc : shQ b n s s' mo mo' gr gr') (hr : shQ b n s2 s2' mo2 mo2' wh wh') (r1 : ∀ i, i < 48 → 0 ≤ (mo2' i).toInt ∧ (mo2' i).toInt ≤ 7) (r2 : ∀ i, i < 48 → 0 ≤ (wh' i).toInt ∧ (wh' i).toInt ≤ 2) : SRx s' s2' mo' gr' mo2' wh' := by
  rcases hc with ⟨a1, a2, a3, k, a, e⟩ | ⟨c, g, a1, a2, e, a3⟩ <;> rcases hr with ⟨b1, b2, b3, k', a', e'⟩ | ⟨c', g', b1, b2, e', b3⟩
  · obtain ⟨c, c1, c2, c3, c4⟩ := h
    refine ⟨c, c1, a1.trans c2, b1.trans c3, fun i hi => ?_⟩
    obtain ⟨m, w, m1, w1, e1, e2, e3, e4⟩ := c4 i hi
    exact ⟨m, w, m1, w1, (a2 i (by omega)).trans e1, (b2 i (by omega)).trans e2, (a3 i (by omega)).trans e3, (b3 i (by omega)).trans e4⟩
  · cases shE_u e e'
  · cases shE_u e e'
  · cases shE_u e e'
    refine ⟨c, a1, a2, b2, fun i hi => ?_⟩
    obtain ⟨x1, x2⟩ := a3 i hi
    obtain ⟨y1, y2⟩ := b3 i hi
    have q1 := r1 i (by omega)
    have q2 := r2 i (by omega)
    obtain ⟨m, m1, m2⟩ := rng_n (k := 7) q1.1 q1.2
    obtain ⟨w, w1, w2⟩ := rng_n (k := 2) q2.1 q2.2
    exact ⟨m, w, m1, w1, (x1.trans y1.symm).trans m2, m2, (x2.trans y2.symm).trans w2, w2⟩
/-! mints and stamps as plain numbers -/
def RCW (τ : Nat → List (Option Nat)) (c T : Nat) (fm fw fx fy : Nat → Nat) : Prop := decA (τ 204) 0 = nI c ∧ decA (τ 203) 0 = nI T ∧ (∀ s, s < c → fm s < 8 ∧ fw s ≤ 2 ∧ decA (τ 255) s = nI (fm s) ∧ decA (τ 256) s = nI (fw s)) ∧ (∀ m, m < 8 → T.testBit m = true → fx m ≤ 23 ∧ fy m ≤ 15 ∧ decA (τ 252) m = nI (fx m) ∧ decA (τ 253) m = nI (fy m))
def RRW (τ : Nat → List (Option Nat)) (c T : Nat) (fm fw fx fy : Nat → Nat) : Prop := decA (τ 205) 0 = nI c ∧ (∀ s, s < c → fm s < 8 ∧ fw s ≤ 2 ∧ decA (τ 257) s = nI (fm s) ∧ decA (τ 258) s = nI (fw s)) ∧ (∀ m, m < 8 → (T.testBit m = true ∧ fx m ≤ 23 ∧ fy m ≤ 15 ∧ decA (τ 254) m = nI (24 * fy m + fx m)) ∨ (T.testBit m = false ∧ decA (τ 254) m = -1))
theorem RE_W {τ : Nat → List (Option Nat)} (hm : MR τ) (hs : SR τ) : ∃ (c T : Nat) (fm fw fx fy : Nat → Nat), c ≤ 48 ∧ RCW τ c T fm fw fx fy ∧ RRW τ c T fm fw fx fy := by
  obtain ⟨T, t1, t2, t3⟩ := hm
  obtain ⟨c, c1, c2, c3, c4⟩ := hs
  refine ⟨c, T, fun s => (decA (τ 255) s).toInt.toNat, fun s => (decA (τ 256) s).toInt.toNat, fun m => (decA (τ 252) m).toInt.toNat, fun m => (decA (τ 253) m).toInt.toNat, c1, ⟨c2, t2, fun s hs => ?_, fun m hm ht => ?_⟩, c3, fun s hs => ?_, fun m hm => ?_⟩
  · obtain ⟨m, w, m1, w1, e1, e2, e3, e4⟩ := c4 s hs
    dsimp only
    rw [e1, e3, tn_n (by omega), tn_n (by omega)]
    exact ⟨by omega, w1, rfl, rfl⟩
  · rcases t3 m hm with ⟨_, x, y, hx, hy, e1, e2, e3⟩ | ⟨z, _⟩
    · dsimp only
      rw [e1, e2, tn_n (by omega), tn_n (by omega)]
      exact ⟨hx, hy, rfl, rfl⟩
    · rw [ht] at z
      cases z
  · obtain ⟨m, w, m1, w1, e1, e2, e3, e4⟩ := c4 s hs
    dsimp only
    rw [e1, e3, e2, e4, tn_n (by omega), tn_n (by omega)]
    exact ⟨by omega, w1, rfl, rfl⟩
  · rcases t3 m hm with ⟨ht, x, y, hx, hy, e1, e2, e3⟩ | ⟨ht, e3⟩
    · dsimp only
      rw [e1, e2, e3, tn_n (by omega), tn_n (by omega)]
      exact Or.inl ⟨ht, hx, hy, rfl⟩
    · exact Or.inr ⟨ht, e3⟩
theorem nr9 {c : Nat} (h : c ≤ 9) : 0 ≤ (nI c).toInt ∧ (nI c).toInt ≤ 9 := by rw [nI_toInt (by omega)]; omega

