/-! ===== calls: the callee's cells are some of the caller's, by their places; a place that isn't among them is a foreign one ===== -/
def posq : List Nat → Nat → Nat → Option Nat
  | [], _, _ => none
  | b :: r, a, i => match Nat.beq a b with
    | true => some i
    | false => posq r a (i + 1)
def un1 (ρ : List Nat) (v : PV) : PV := match v with
  | .inl x => .inl x
  | .inr none => .inr none
  | .inr (some (.inl a)) => match posq ρ a 0 with
    | some i => .inr (some (.inl i))
    | none => match Nat.ble 1000000 a with
      | true => .inr (some (.inl a))
      | false => .inr (some (.inr [some a]))
  | .inr (some (.inr t)) => .inr (some (.inr (none :: t)))
def unK (ρ : List Nat) (v : PV) (k : PV → Prop) : Prop := match v with
  | .inl x => k (.inl x)
  | .inr none => k (.inr none)
  | .inr (some (.inl a)) => match posq ρ a 0 with
    | some i => k (.inr (some (.inl i)))
    | none => match Nat.ble 1000000 a with
      | true => k (.inr (some (.inl a)))
      | false => k (.inr (some (.inr [some a])))
  | .inr (some (.inr t)) => k (.inr (some (.inr (none :: t))))
theorem unK_eq (ρ : List Nat) (v : PV) (k : PV → Prop) : unK ρ v k = k (un1 ρ v) := by
  rcases v with x | _ | a | t
  · rfl
  · rfl
  · unfold unK un1
    dsimp only
    split
    · rfl
    · split <;> rfl
  · rfl
def unL (ρ : List Nat) : List PV → (List PV → Prop) → Prop
  | [], k => k []
  | v :: r, k => unK ρ v (fun v' => unL ρ r (fun r' => k (v' :: r')))
theorem unL_eq (ρ : List Nat) : ∀ (l : List PV) (k : List PV → Prop), unL ρ l k = k (l.map (un1 ρ))
  | [], k => rfl
  | v :: r, k => by
    show unK ρ v (fun v' => unL ρ r (fun r' => k (v' :: r'))) = _
    rw [unK_eq, unL_eq ρ r]
    rfl
def un2 (ρ : List Nat) (e : PE) : PE := match e with
  | .inl x => .inl x
  | .inr (ci, fs) => .inr (ci, fs.map (un1 ρ))
def unE (ρ : List Nat) (e : PE) (k : PE → Prop) : Prop := match e with
  | .inl x => k (.inl x)
  | .inr (ci, fs) => unL ρ fs (fun fs' => k (.inr (ci, fs')))
theorem unE_eq (ρ : List Nat) (e : PE) (k : PE → Prop) : unE ρ e k = k (un2 ρ e) := by
  rcases e with x | ⟨ci, fs⟩
  · rfl
  · exact unL_eq ρ fs _
def pick (ρ : List Nat) (h : PH) : List Nat → (PH → Prop) → Prop
  | [], k => k []
  | a :: r, k => match nth h a with
    | some e => unE ρ e (fun e' => pick ρ h r (fun l => k (e' :: l)))
    | none => False
theorem pick_spec (ρ : List Nat) (h : PH) : ∀ (r : List Nat) (k : PH → Prop), pick ρ h r k → ∃ hc : PH, k hc ∧ hc.length = r.length ∧ ∀ (i a : Nat), r[i]? = some a → ∃ e, h[a]? = some e ∧ hc[i]? = some (un2 ρ e)
  | [], k, hp => ⟨[], hp, rfl, fun i a hi => by simp at hi⟩
  | b :: r, k, hp => by
    unfold pick at hp
    split at hp
    · rename_i e he
      rw [unE_eq] at hp
      obtain ⟨hc, h1, h2, h3⟩ := pick_spec ρ h r _ hp
      rw [nth_eq] at he
      refine ⟨un2 ρ e :: hc, h1, by simp [h2], fun i a hi => ?_⟩
      cases i with
      | zero => simp at hi; subst hi; exact ⟨e, he, rfl⟩
      | succ i => simpa using h3 i a (by simpa using hi)
    · exact hp.elim
def re1 (ρ : List Nat) (B nh : Nat) (v : PV) : PV := match v with
  | .inl x => .inl x
  | .inr none => .inr none
  | .inr (some (.inl i)) => match nth ρ i with
    | some a => .inr (some (.inl a))
    | none => match Nat.blt i (ρ.length + B) with
      | true => .inr (some (.inl (nh + (i - ρ.length))))
      | false => .inr (some (.inl i))
  | .inr (some (.inr [])) => .inr (some (.inr []))
  | .inr (some (.inr (some a :: _))) => .inr (some (.inl a))
  | .inr (some (.inr (none :: t))) => .inr (some (.inr t))
def reK (ρ : List Nat) (B nh : Nat) (v : PV) (k : PV → Prop) : Prop := match v with
  | .inl x => k (.inl x)
  | .inr none => k (.inr none)
  | .inr (some (.inl i)) => match nth ρ i with
    | some a => k (.inr (some (.inl a)))
    | none => match Nat.blt i (ρ.length + B) with
      | true => k (.inr (some (.inl (nh + (i - ρ.length)))))
      | false => k (.inr (some (.inl i)))
  | .inr (some (.inr [])) => k (.inr (some (.inr [])))
  | .inr (some (.inr (some a :: _))) => k (.inr (some (.inl a)))
  | .inr (some (.inr (none :: t))) => k (.inr (some (.inr t)))
theorem reK_eq (ρ : List Nat) (B nh : Nat) (v : PV) (k : PV → Prop) : reK ρ B nh v k = k (re1 ρ B nh v) := by
  rcases v with x | _ | a | _ | ⟨_ | a, t⟩
  · rfl
  · rfl
  · unfold reK re1
    dsimp only
    split
    · rfl
    · split <;> rfl
  · rfl
  · rfl
  · rfl
def reL (ρ : List Nat) (B nh : Nat) : List PV → (List PV → Prop) → Prop
  | [], k => k []
  | v :: r, k => reK ρ B nh v (fun v' => reL ρ B nh r (fun r' => k (v' :: r')))
theorem reL_eq (ρ : List Nat) (B nh : Nat) : ∀ (l : List PV) (k : List PV → Prop), reL ρ B nh l k = k (l.map (re1 ρ B nh))
  | [], k => rfl
  | v :: r, k => by
    show reK ρ B nh v (fun v' => reL ρ B nh r (fun r' => k (v' :: r'))) = _
    rw [reK_eq, reL_eq ρ B nh r]
    rfl
def re2 (ρ : List Nat) (B nh : Nat) (e : PE) : PE := match e with
  | .inl x => .inl x
  | .inr (ci, fs) => .inr (ci, fs.map (re1 ρ B nh))
def reE (ρ : List Nat) (B nh : Nat) (e : PE) (k : PE → Prop) : Prop := match e with
  | .inl x => k (.inl x)
  | .inr (ci, fs) => reL ρ B nh fs (fun fs' => k (.inr (ci, fs')))
theorem reE_eq (ρ : List Nat) (B nh : Nat) (e : PE) (k : PE → Prop) : reE ρ B nh e k = k (re2 ρ B nh e) := by
  rcases e with x | ⟨ci, fs⟩
  · rfl
  · exact reL_eq ρ B nh fs _
def apK (ρ : List Nat) (B nh : Nat) : Nat → PH → PH → (PH → Prop) → Prop
  | 0, [], h, k => k h
  | n + 1, e :: h', h, k => reE ρ B nh e (fun e' => snoc h e' (fun h2 => apK ρ B nh n h' h2 k))
  | 0, _ :: _, _, _ => False
  | _ + 1, [], _, _ => False
theorem apK_spec (ρ : List Nat) (B nh : Nat) : ∀ (n : Nat) (h' h : PH) (k : PH → Prop), apK ρ B nh n h' h k → h'.length = n ∧ k (h ++ h'.map (re2 ρ B nh))
  | 0, [], h, k, hp => ⟨rfl, by
    have hp : k h := hp
    simpa using hp⟩
  | n + 1, e :: h', h, k, hp => by
    have hp : reE ρ B nh e (fun e' => snoc h e' (fun h2 => apK ρ B nh n h' h2 k)) := hp
    rw [reE_eq] at hp
    have h2 := snoc_spec _ _ _ hp
    obtain ⟨h3, h4⟩ := apK_spec ρ B nh n h' _ k h2
    exact ⟨by simp [h3], by simpa using h4⟩
  | 0, _ :: _, _, _, hp => hp.elim
  | _ + 1, [], _, _, hp => hp.elim
def wbK (ρ : List Nat) (B nh : Nat) : List Nat → PH → PH → (PH → Prop) → Prop
  | a :: r, e :: h', h, k => reE ρ B nh e (fun e' => put h a e' (fun h2 => wbK ρ B nh r h' h2 k))
  | [], h', h, k => apK ρ B nh B h' h k
  | _ :: _, [], _, _ => False
/-- the cells behind a call: those of the callee at their places, the rest as it was, new ones at the end -/
theorem wbK_spec (ρ : List Nat) (B nh : Nat) : ∀ (r : List Nat) (h' h : PH) (k : PH → Prop), (∀ (i j a : Nat), r[i]? = some a → r[j]? = some a → i = j) → wbK ρ B nh r h' h k → ∃ h2 : PH, k h2 ∧ h'.length = r.length + B ∧ h2.length = h.length + B ∧
    (∀ (i a : Nat), r[i]? = some a → a < h.length ∧ h2[a]? = h'[i]?.map (re2 ρ B nh)) ∧ (∀ a : Nat, a < h.length → a ∉ r → h2[a]? = h[a]?) ∧ ∀ j : Nat, j < B → h2[h.length + j]? = h'[r.length + j]?.map (re2 ρ B nh)
  | [], h', h, k, hn, hp => by
    obtain ⟨h1, h2⟩ := apK_spec ρ B nh B h' h k hp
    refine ⟨_, h2, by simp [h1], by simp [h1], fun i a hi => by simp at hi, fun a ha _ => by rw [List.getElem?_append_left ha], fun j hj => ?_⟩
    rw [List.getElem?_append_right (by omega), List.getElem?_map]
    simp
  | b :: r, [], h, k, hn, hp => hp.elim
  | b :: r, e :: h', h, k, hn, hp => by
    have hp : reE ρ B nh e (fun e' => put h b e' (fun h2 => wbK ρ B nh r h' h2 k)) := hp
    rw [reE_eq] at hp
    obtain ⟨q1, q2⟩ := put_spec _ _ _ _ hp
    have hn' : ∀ (i j a : Nat), r[i]? = some a → r[j]? = some a → i = j := fun i j a hi hj => by
      have := hn (i + 1) (j + 1) a (by simpa using hi) (by simpa using hj)
      omega
    obtain ⟨h2, g1, g2, g3, g4, g5, g6⟩ := wbK_spec ρ B nh r h' _ k hn' q2
    have hb : b ∉ r := fun hb => by
      obtain ⟨j, hj⟩ := List.getElem?_of_mem hb
      have := hn 0 (j + 1) b (by simp) (by simpa using hj)
      omega
    rw [List.length_set] at g3 g4 g5 g6
    refine ⟨h2, g1, by simp [g2]; omega, g3, fun i a hi => ?_, fun a ha hr => ?_, fun j hj => ?_⟩
    · cases i with
      | zero =>
        simp at hi
        subst hi
        refine ⟨q1, ?_⟩
        rw [g5 b q1 hb, List.getElem?_set_self q1]
        simp
      | succ i => simpa using g4 i a (by simpa using hi)
    · rw [List.mem_cons, not_or] at hr
      rw [g5 a ha hr.2, List.getElem?_set_ne (Ne.symm hr.1)]
    · rw [g6 j hj]
      simp [show r.length + 1 + j = r.length + j + 1 by omega]
theorem posq_some : ∀ (ρ : List Nat) (a b i : Nat), posq ρ a b = some i → b ≤ i ∧ ρ[i - b]? = some a
  | [], a, b, i, h => by simp [posq] at h
  | c :: r, a, b, i, h => by
    unfold posq at h
    split at h
    · rename_i hb
      cases h
      exact ⟨Nat.le_refl _, by simp [Nat.eq_of_beq_eq_true hb]⟩
    · obtain ⟨h1, h2⟩ := posq_some r a (b + 1) i h
      refine ⟨by omega, ?_⟩
      rw [show i - b = (i - (b + 1)) + 1 by omega]
      simpa using h2
theorem nd_inj {ρ : List Nat} (h : va_nd ρ = true) : ∀ (i j a : Nat), ρ[i]? = some a → ρ[j]? = some a → i = j := fun i j a => va_nd_inj ρ h i j a
/-- the callee's addresses -/
def adc (ρ : List Nat) (ad : PR → Nat) (q : PR) : Nat := match q with
  | .inl i => match ρ[i]? with
    | some a => ad (.inl a)
    | none => ad (.inl i)
  | .inr [] => ad (.inr [])
  | .inr (some a :: _) => ad (.inl a)
  | .inr (none :: t) => ad (.inr t)
theorem cV_un {ρ : List Nat} {ad : PR → Nat} (hρ : ρ.length ≤ 1000) (v : PV) : cV (adc ρ ad) (un1 ρ v) = cV ad v := by
  rcases v with x | _ | a | t
  · rfl
  · rfl
  · unfold un1
    dsimp only
    split
    · rename_i i hi
      have h2 := (posq_some ρ a 0 i hi).2
      rw [Nat.sub_zero] at h2
      show Value.ref (adc ρ ad (.inl i)) = _
      unfold adc
      dsimp only
      rw [h2]
      rfl
    · split
      · rename_i hb
        have hb := Nat.ble_eq.mp hb
        show Value.ref (adc ρ ad (.inl a)) = _
        unfold adc
        dsimp only
        rw [List.getElem?_eq_none (by omega)]
        rfl
      · rfl
  · rfl
theorem cV_unL {ρ : List Nat} {ad : PR → Nat} (hρ : ρ.length ≤ 1000) (l : List PV) : (l.map (un1 ρ)).map (cV (adc ρ ad)) = l.map (cV ad) := by
  rw [List.map_map]
  exact List.map_congr_left fun v _ => cV_un hρ v
theorem cE_un {cs : Nat → ClassId} {ρ : List Nat} {ad : PR → Nat} (hρ : ρ.length ≤ 1000) (e : PE) : cE cs (adc ρ ad) (un2 ρ e) = cE cs ad e := by
  rcases e with ⟨t, n, f⟩ | ⟨ci, fs⟩
  · rfl
  · show Sum.inr (ci, (fs.map (un1 ρ)).map (cV (adc ρ ad))) = _
    rw [cV_unL hρ]
    rfl
theorem sub_cW {cs : Nat → ClassId} {ρ : List Nat} {ad : PR → Nat} {h hc : PH} (hρ : ρ.length ≤ 1000) (h1 : hc.length = ρ.length) (h2 : ∀ (i a : Nat), ρ[i]? = some a → ∃ e, h[a]? = some e ∧ hc[i]? = some (un2 ρ e)) : ρ.map (fun a => (cW cs ad h)[a]?) = (cW cs (adc ρ ad) hc).map some := by
  apply List.ext_getElem?
  intro i
  rw [List.getElem?_map, List.getElem?_map]
  cases hi : ρ[i]? with
  | none =>
    have : ρ.length ≤ i := by simpa using hi
    rw [List.getElem?_eq_none (by rw [cW_len]; omega)]
    rfl
  | some a =>
    obtain ⟨e, e1, e2⟩ := h2 i a hi
    rw [cW_get e2]
    show some ((cW cs ad h)[a]?) = some (some _)
    rw [cW_get e1, cE_un hρ]
    unfold adc
    dsimp only
    rw [hi]
def rcK (rc : Option Nat) (as : List PV) (h : PH) (K : Prop) : Prop := match rc with
  | none => K
  | some ci => match as with
    | .inr (some (.inl a)) :: _ => match nth h a with
      | some (.inr (cj, _)) => match Nat.beq ci cj with
        | true => K
        | false => False
      | _ => False
    | _ => False
/-- every place that is named lies below n -/
def ltF (n : Nat) : List PV → Bool
  | [] => true
  | .inr (some (.inl k)) :: l => Nat.blt k n && ltF n l
  | _ :: l => ltF n l
def ltH (n : Nat) : PH → Bool
  | [] => true
  | .inl _ :: h => ltH n h
  | .inr (_, fs) :: h => ltF n fs && ltH n h
/-- no foreign value of a callee names one of the cells that come -/
def fkF (lo hi : Nat) : List PV → Bool
  | [] => true
  | .inr (some (.inr (some a :: _))) :: l => (Nat.blt a lo || Nat.ble hi a) && fkF lo hi l
  | _ :: l => fkF lo hi l
def fkH (lo hi : Nat) : PH → Bool
  | [] => true
  | .inl _ :: h => fkH lo hi h
  | .inr (_, fs) :: h => fkF lo hi fs && fkH lo hi h
/-- a call that makes nothing -/
def o_call (M : List PV → PH → (Option PV → PH → Prop) → Prop) (rc : Option Nat) (n : Nat) (ρ : List Nat) (k : Blk) : Blk := fun L st h =>
  popN n st [] (fun as rest => rcK rc as h ((Nat.ble rest.length 8 && Nat.ble ρ.length 1000 && Nat.ble h.length 1000) = true ∧ va_nd ρ = true ∧ pick ρ h ρ (fun hc => unL ρ as (fun as' => ∃ post : Option PV → PH → Prop, M as' hc post ∧ ∀ (r : Option PV) (h' : PH), post r h' → wbK ρ 0 h.length ρ h' h (fun h2 => match r with
    | none => k L rest h2
    | some v => reK ρ 0 h.length v (fun v' => k L (v' :: rest) h2))))))
/-- a constructor's call: B cells come -/
def o_callA (M : List PV → PH → (Option PV → PH → Prop) → Prop) (B : Nat) (n : Nat) (ρ : List Nat) (k : Blk) : Blk := fun L st h =>
  popN n st [] (fun as rest => ∃ (a : Nat) (as1 : List PV), as = .inr (some (.inl a)) :: as1 ∧ (Nat.ble rest.length 8 && Nat.ble ρ.length 1000 && Nat.ble h.length 1000) = true ∧ va_nd ρ = true ∧ (okL h.length (h.length + B) L && okF h.length (h.length + B) rest && okH h.length (h.length + B) h) = true ∧ pick ρ h ρ (fun hc => unL ρ as (fun as' => ∃ post : Option PV → PH → Prop, M as' hc post ∧ ∀ (r : Option PV) (h' : PH), post r h' → r = none ∧
    ltH (ρ.length + B) h' = true ∧ fkH h.length (h.length + B) h' = true ∧ wbK ρ B h.length ρ h' h (fun h2 => k L rest h2))))
/-- a call on an object of one of several classes -/
def o_callL (M : List PV → PH → (Option PV → PH → Prop) → Prop) (cis : List Nat) (n : Nat) (ρ : List Nat) (k : Blk) : Blk := fun L st h =>
  popN n st [] (fun as rest => match as with
    | .inr (some (.inl a)) :: _ => match nth h a with
      | some (.inr (cj, _)) => match cis.contains cj with
        | true => (Nat.ble rest.length 8 && Nat.ble ρ.length 1000 && Nat.ble h.length 1000) = true ∧ va_nd ρ = true ∧ pick ρ h ρ (fun hc => unL ρ as (fun as' => ∃ post : Option PV → PH → Prop, M as' hc post ∧ ∀ (r : Option PV) (h' : PH), post r h' → wbK ρ 0 h.length ρ h' h (fun h2 => match r with
          | none => k L rest h2
          | some v => reK ρ 0 h.length v (fun v' => k L (v' :: rest) h2))))
        | false => False
      | _ => False
    | _ => False)
theorem ble2 {a b c : Nat} (h : (Nat.ble a 8 && Nat.ble b 1000 && Nat.ble c 1000) = true) : a ≤ 8 ∧ b ≤ 1000 ∧ c ≤ 1000 := by
  simp only [Bool.and_eq_true] at h
  exact ⟨Nat.ble_eq.mp h.1.1, Nat.ble_eq.mp h.1.2, Nat.ble_eq.mp h.2⟩
section CALLS
variable {p : Program} {l : Launch} {e : Env} {R : Room} {s : State} {m : MethodId} {args : Array Value} {below : List Frame} {meth : Method} {c : Code} {own nm : String} {cc : ByteArray} {nL : Nat} {rt : Option FieldType} {D : va_G} {cs : Nat → ClassId} {A : Nat → Prop} {n0 : Nat} {a0 : PR → Nat} {Q : State → Prop} {pc cells slots : Nat} {k kt kf : Blk}
/-- the callee's run, and what comes behind it -/
theorem p_call {H : Heap} {locs : List Loc} {mc ms : Nat} {ls : Array Slot} {st0 rest : List Value} {A1 : Nat → Prop} {n1 : Nat} {a1 : PR → Nat} {post : Option PV → PH → Prop} {av : Array Value}
    (hr : va_Run p l e R s m args below meth c H locs cells slots mc ms (F0 m pc ls st0) rest (Qp D cs A1 n1 a1 post av) A1) (hS : va_S A s.heap H locs) (hA : ∀ q, A1 q → A q)
    (kk : ∀ (r : Option PV) (h' : PH) (ad' : PR → Nat) (H1 : Heap) (locs1 : List Loc), post r h' → ag n1 a1 ad' h'.length → va_P D vwCl (cW cs ad' h') H1 → va_D A1 (cW cs ad' h') → (∀ q : Nat, q < H.size → ¬ A1 q → H1[q]? = H[q]?) → va_S A s.heap H1 locs1 →
      W p l e R s m args below meth c H1 locs1 (cells + mc) (slots + ms) Q (F0 m (pc + 3) ls ((r.map (cV ad')).toList ++ rest))) : W p l e R s m args below meth c H locs cells slots Q (F0 m pc ls st0) := by
  intro T hT X
  obtain ⟨v, st₀, t, T', L, h0, X', hL, e1, e2, ⟨⟨r, h', ad', hv, hp, hg, hP1, hD1⟩, hz, hk⟩, st⟩ := hr T hT X
  cases hv
  rw [h0] at hz hk
  obtain ⟨t2, a1, b1⟩ := kk r h' ad' T'.heap (locs ++ L) hp hg (by rw [e1]; exact hP1) hD1 (fun q h1 h2 => by rw [e1]; exact hk q h1 h2)
    ⟨Nat.le_trans hS.1 (by rw [e1]; exact hz), fun q h1 h2 => by rw [e1, hk q (Nat.lt_of_lt_of_le h1 hS.1) (fun z => h2 (hA q z))]; exact hS.2.1 q h1 h2, fun q hq => by
      rcases List.mem_append.mp hq with h | h
      · exact hS.2.2 q h
      · exact hA _ (hL q h)⟩ T' rfl X'
  exact ⟨t2, st t2 a1, b1⟩
/-- the caller's world behind the call -/
theorem p_world {locs : List Loc} {ρ : List Nat} {ad a1 ad' ad2 : PR → Nat} {h hc h' h2 : PH} {H H1 : Heap} (hP : va_P D vwCl (cW cs ad h) H) (hD : va_D A (cW cs ad h)) (hS : va_S A s.heap H locs) (hA0 : ∀ q : Nat, s.heap.size ≤ q → A q)
    (hn : ∀ (i j a : Nat), ρ[i]? = some a → ρ[j]? = some a → i = j) (hsub : ρ.map (fun a => (cW cs ad h)[a]?) = (cW cs a1 hc).map some)
    (hk : ∀ q : Nat, q < H.size → ¬ va_A (cW cs a1 hc) H.size q → H1[q]? = H[q]?) (hP1 : va_P D vwCl (cW cs ad' h') H1) (hD1 : va_D (va_A (cW cs a1 hc) H.size) (cW cs ad' h'))
    (hsp : ∀ (x : Nat) (q : Nat × va_E), (cW cs ad2 h2)[x]? = some q → (x ∉ ρ ∧ (cW cs ad h)[x]? = some q) ∨ ∃ i : Nat, (ρ[i]? = some x ∨ (ρ.length ≤ i ∧ x = h.length + (i - ρ.length))) ∧ (cW cs ad' h')[i]? = some q) (hlt : ∀ (i a : Nat), ρ[i]? = some a → a < h.length) : va_P D vwCl (cW cs ad2 h2) H1 ∧ va_D A (cW cs ad2 h2) := by
  have hF := va_free (wc := cW cs a1 hc) hD hS hA0 ρ hsub
  have hout : ∀ (x : Nat) (q : Nat × va_E), x ∉ ρ → (cW cs ad h)[x]? = some q → q.1 < H.size ∧ ¬ va_A (cW cs a1 hc) H.size q.1 := by
    intro x q hx hq
    have hl := (hP x q hq).lt
    refine ⟨hl, fun hz => ?_⟩
    rcases hz with ⟨k2, e2, hz⟩ | hz
    · have h1 : (ρ.map (fun a => (cW cs ad h)[a]?))[k2]? = some (some (q.1, e2)) := by rw [hsub, List.getElem?_map, hz]; rfl
      rw [List.getElem?_map] at h1
      cases hi : ρ[k2]? with
      | none => rw [hi] at h1; cases h1
      | some a =>
        rw [hi] at h1
        have := hD.1 x a q (q.1, e2) hq (Option.some.inj h1) rfl
        subst this
        exact hx (List.mem_of_getElem? hi)
    · omega
  refine ⟨fun x q hq => ?_, ⟨fun x y a b hx hy hab => ?_, fun x q hq => ?_⟩⟩
  · rcases hsp x q hq with ⟨g1, g2⟩ | ⟨i, -, g2⟩
    · obtain ⟨l1, l2⟩ := hout x q g1 g2
      exact (hP x q g2).kept (hk q.1 l1 l2)
    · exact hP1 i q g2
  · rcases hsp x a hx with ⟨g1, g2⟩ | ⟨i, g1, g2⟩ <;> rcases hsp y b hy with ⟨f1, f2⟩ | ⟨j, f1, f2⟩
    · exact hD.1 x y a b g2 f2 hab
    · exact absurd (by rw [hab]; exact hD1.2 j b f2) (hout x a g1 g2).2
    · exact absurd (by rw [← hab]; exact hD1.2 i a g2) (hout y b f1 f2).2
    · have hij := hD1.1 i j a b g2 f2 hab
      subst hij
      rcases g1 with g1 | ⟨g1, g3⟩ <;> rcases f1 with f1 | ⟨f1, f3⟩
      · exact Option.some.inj (g1.symm.trans f1)
      · have := (List.getElem?_eq_some_iff.mp g1).1; omega
      · have := (List.getElem?_eq_some_iff.mp f1).1; omega
      · omega
  · rcases hsp x q hq with ⟨g1, g2⟩ | ⟨i, -, g2⟩
    · exact hD.2 x q g2
    · exact hF _ (hD1.2 i q g2)
end CALLS
