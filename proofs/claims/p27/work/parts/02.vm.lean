/-! ===== a pure machine: values are ints, null, or the place of a cell in a list; its blocks are conditions; each is sound over the kit's rows ===== -/
abbrev PR : Type := Nat ⊕ List (Option Nat)
abbrev PV : Type := Int32 ⊕ Option PR
abbrev PE : Type := (Nat × Nat × (Nat → Int32)) ⊕ (Nat × List PV)
abbrev PH : Type := List PE
abbrev PL : Type := List (Option PV)
abbrev Blk : Type := PL → List PV → PH → Prop
def cV (ad : PR → Nat) (v : PV) : Value := match v with
  | .inl x => .int x
  | .inr none => .null
  | .inr (some k) => .ref (ad k)
def cE (cs : Nat → ClassId) (ad : PR → Nat) (e : PE) : va_E := match e with
  | .inl (t, n, f) => .inl (cs t, n, .inl f)
  | .inr (ci, fs) => .inr (ci, fs.map (cV ad))
def cW (cs : Nat → ClassId) (ad : PR → Nat) (h : PH) : va_W := h.mapIdx (fun i e => (ad (.inl i), cE cs ad e))
theorem cV_cat (ad : PR → Nat) (v : PV) : (cV ad v).category = 1 := by rcases v with x | _ | k <;> rfl
theorem cV_sum (ad : PR → Nat) : ∀ (st : List PV), ((st.map (cV ad)).map fun v => v.category).sum = st.length
  | [] => rfl
  | v :: st => by simp only [List.map_cons, List.sum_cons, List.length_cons, cV_cat, cV_sum ad st]; omega
theorem cW_at {cs : Nat → ClassId} {ad : PR → Nat} {h : PH} (k : Nat) : (cW cs ad h)[k]? = h[k]?.map (fun e => (ad (.inl k), cE cs ad e)) := by simp [cW]
theorem cW_get {cs : Nat → ClassId} {ad : PR → Nat} {h : PH} {k : Nat} {e : PE} (hk : h[k]? = some e) : (cW cs ad h)[k]? = some (ad (.inl k), cE cs ad e) := by rw [cW_at, hk]; rfl
theorem cW_len {cs : Nat → ClassId} {ad : PR → Nat} {h : PH} : (cW cs ad h).length = h.length := by simp [cW]
theorem cW_set {cs : Nat → ClassId} {ad : PR → Nat} {h : PH} (k : Nat) (e : PE) : cW cs ad (h.set k e) = (cW cs ad h).set k (ad (.inl k), cE cs ad e) := by
  apply List.ext_getElem?
  intro i
  rw [cW_at, List.getElem?_set, List.getElem?_set, cW_at, cW_len]
  by_cases hk : k = i
  · subst hk
    by_cases hl : k < h.length <;> simp [hl]
  · simp [hk]
theorem cW_push {cs : Nat → ClassId} {ad : PR → Nat} {h : PH} (e : PE) : cW cs ad (h ++ [e]) = cW cs ad h ++ [(ad (.inl h.length), cE cs ad e)] := by
  simp [cW, List.mapIdx_append]
def nth {α : Type} : List α → Nat → Option α
  | [], _ => none
  | x :: _, 0 => some x
  | _ :: l, n + 1 => nth l n
theorem nth_eq {α : Type} : ∀ (l : List α) (i : Nat), nth l i = l[i]?
  | [], i => by simp [nth]
  | x :: l, 0 => by simp [nth]
  | x :: l, n + 1 => by simp [nth, nth_eq l n]
def put {α : Type} : List α → Nat → α → (List α → Prop) → Prop
  | [], _, _, _ => False
  | _ :: l, 0, v, k => k (v :: l)
  | x :: l, n + 1, v, k => put l n v (fun l' => k (x :: l'))
theorem put_spec {α : Type} : ∀ (l : List α) (i : Nat) (v : α) (k : List α → Prop), put l i v k → i < l.length ∧ k (l.set i v)
  | [], i, v, k, h => h.elim
  | x :: l, 0, v, k, h => ⟨by simp, h⟩
  | x :: l, n + 1, v, k, h => by
    have h2 := put_spec l n v (fun l' => k (x :: l')) h
    exact ⟨by simp; exact h2.1, h2.2⟩
def snoc {α : Type} : List α → α → (List α → Prop) → Prop
  | [], v, k => k [v]
  | x :: l, v, k => snoc l v (fun l' => k (x :: l'))
theorem snoc_spec {α : Type} : ∀ (l : List α) (v : α) (k : List α → Prop), snoc l v k → k (l ++ [v])
  | [], v, k, h => h
  | x :: l, v, k, h => snoc_spec l v (fun l' => k (x :: l')) h
def popN : Nat → List PV → List PV → (List PV → List PV → Prop) → Prop
  | 0, st, acc, k => k acc st
  | n + 1, v :: st, acc, k => popN n st (v :: acc) k
  | _ + 1, [], _, _ => False
theorem popN_spec : ∀ (n : Nat) (st acc : List PV) (k : List PV → List PV → Prop), popN n st acc k → ∃ as rest, st = as.reverse ++ rest ∧ as.length = n ∧ k (as ++ acc) rest
  | 0, st, acc, k, h => ⟨[], st, rfl, rfl, h⟩
  | n + 1, [], acc, k, h => h.elim
  | n + 1, v :: st, acc, k, h => by
    obtain ⟨as, rest, h1, h2, h3⟩ := popN_spec n st (v :: acc) k h
    exact ⟨as ++ [v], rest, by simp [h1], by simp [h2], by simpa using h3⟩
/-- which addresses: as a0 has them, but for the cells that came -/
def ag (n0 : Nat) (a0 ad : PR → Nat) (n : Nat) : Prop := n0 ≤ n ∧ (∀ i : Nat, (i < n0 ∨ n ≤ i) → ad (.inl i) = a0 (.inl i)) ∧ ∀ t, ad (.inr t) = a0 (.inr t)
/-- the same addresses outside a range of places -/
def smo (lo hi : Nat) (ad ad' : PR → Nat) : Prop := (∀ i : Nat, (i < lo ∨ hi ≤ i) → ad' (.inl i) = ad (.inl i)) ∧ ∀ t, ad' (.inr t) = ad (.inr t)
def plr (ad : PR → Nat) (ls : Array Slot) (nL : Nat) (L : PL) : Prop := ls.size = nL ∧ L.length = nL ∧ lv_wf ls ∧ ∀ (i : Nat) (v : PV), nth L i = some (some v) → ls[i]? = some (.val (cV ad v))
def prs (ad : PR → Nat) : Nat → PL → List (Nat × Value)
  | _, [] => []
  | i, some v :: L => (i, cV ad v) :: prs ad (i + 1) L
  | i, none :: L => prs ad (i + 1) L
theorem prs_in (ad : PR → Nat) : ∀ (L : PL) (b i : Nat) (v : PV), nth L i = some (some v) → (b + i, cV ad v) ∈ prs ad b L
  | [], b, i, v, h => by simp [nth] at h
  | x :: L, b, 0, v, h => by
    simp [nth] at h
    subst h
    simp [prs]
  | x :: L, b, i + 1, v, h => by
    have h2 := prs_in ad L (b + 1) i v h
    rw [show b + (i + 1) = b + 1 + i by omega]
    cases x with
    | none => exact h2
    | some w => exact List.mem_cons_of_mem _ h2
theorem prs_out (ad : PR → Nat) : ∀ (L : PL) (b : Nat) (q : Nat × Value), q ∈ prs ad b L → ∃ i v, q = (b + i, cV ad v) ∧ nth L i = some (some v)
  | [], b, q, h => by simp [prs] at h
  | none :: L, b, q, h => by
    obtain ⟨i, v, h1, h2⟩ := prs_out ad L (b + 1) q h
    exact ⟨i + 1, v, by rw [h1]; congr 1; omega, h2⟩
  | some w :: L, b, q, h => by
    rcases List.mem_cons.mp h with h | h
    · exact ⟨0, w, by rw [h]; rfl, rfl⟩
    · obtain ⟨i, v, h1, h2⟩ := prs_out ad L (b + 1) q h
      exact ⟨i + 1, v, by rw [h1]; congr 1; omega, h2⟩
theorem plr.has {ad : PR → Nat} {ls : Array Slot} {nL : Nat} {L : PL} (h : plr ad ls nL L) : lv_has ls nL (prs ad 0 L) :=
  ⟨h.1, h.2.2.1, fun q hq => by
    obtain ⟨i, v, h1, h2⟩ := prs_out ad L 0 q hq
    rw [h1]
    simpa using h.2.2.2 i v h2⟩
theorem plr.put {ad : PR → Nat} {ls ls' : Array Slot} {nL : Nat} {L : PL} {i : Nat} {v : PV} (h : plr ad ls nL L) (hi : i < nL) (h' : lv_has ls' nL ((i, cV ad v) :: (prs ad 0 L).filter (fun q => !(q.1 == i) && !(q.1 + 1 == i && q.2.category == 2)))) : plr ad ls' nL (L.set i (some v)) := by
  refine ⟨h'.1, by rw [List.length_set]; exact h.2.1, h'.2.1, fun j w hj => ?_⟩
  rw [nth_eq, List.getElem?_set] at hj
  by_cases hij : i = j
  · subst hij
    rw [if_pos rfl, h.2.1, if_pos hi] at hj
    cases hj
    exact h'.2.2 _ List.mem_cons_self
  · rw [if_neg hij] at hj
    refine h'.2.2 (j, cV ad w) (List.mem_cons_of_mem _ (List.mem_filter.mpr ⟨?_, ?_⟩))
    · have := prs_in ad L 0 j w (by rw [nth_eq]; exact hj)
      simpa using this
    · simp [cV_cat, Ne.symm hij]
/-- a value that names no cell of a range; all values of a state likewise -/
def okV (lo hi : Nat) (v : PV) : Bool := match v with
  | .inr (some (.inl k)) => Nat.blt k lo || Nat.ble hi k
  | _ => true
def okF (lo hi : Nat) : List PV → Bool
  | [] => true
  | v :: l => okV lo hi v && okF lo hi l
def okH (lo hi : Nat) : PH → Bool
  | [] => true
  | .inl _ :: h => okH lo hi h
  | .inr (_, fs) :: h => okF lo hi fs && okH lo hi h
def okL (lo hi : Nat) : PL → Bool
  | [] => true
  | none :: L => okL lo hi L
  | some v :: L => okV lo hi v && okL lo hi L
theorem okV_cV {lo hi : Nat} {v : PV} {ad ad' : PR → Nat} (h : okV lo hi v = true) (ha : smo lo hi ad ad') : cV ad' v = cV ad v := by
  rcases v with x | _ | k | t
  · rfl
  · rfl
  · simp only [okV, Bool.or_eq_true] at h
    show Value.ref (ad' (.inl k)) = .ref (ad (.inl k))
    rw [ha.1 k (h.imp (fun z => by simpa using z) (fun z => by simpa using z))]
  · show Value.ref (ad' (.inr t)) = .ref (ad (.inr t))
    rw [ha.2 t]
theorem okF_cV {lo hi : Nat} {ad ad' : PR → Nat} (ha : smo lo hi ad ad') : ∀ {l : List PV}, okF lo hi l = true → l.map (cV ad') = l.map (cV ad)
  | [], _ => rfl
  | v :: l, h => by
    simp only [okF, Bool.and_eq_true] at h
    rw [List.map_cons, List.map_cons, okV_cV h.1 ha, okF_cV ha h.2]
theorem okL_cV {lo hi : Nat} {ad ad' : PR → Nat} (ha : smo lo hi ad ad') : ∀ {L : PL}, okL lo hi L = true → ∀ (i : Nat) (v : PV), nth L i = some (some v) → cV ad' v = cV ad v
  | [], _, i, v, hv => by simp [nth] at hv
  | none :: L, h, i, v, hv => by
    cases i with
    | zero => simp [nth] at hv
    | succ i => exact okL_cV (L := L) ha h i v hv
  | some w :: L, h, i, v, hv => by
    simp only [okL, Bool.and_eq_true] at h
    cases i with
    | zero => simp [nth] at hv; subst hv; exact okV_cV h.1 ha
    | succ i => exact okL_cV (L := L) ha h.2 i v hv
theorem okH_cE {lo hi : Nat} {cs : Nat → ClassId} {ad ad' : PR → Nat} (ha : smo lo hi ad ad') : ∀ {h : PH}, okH lo hi h = true → ∀ (i : Nat) (e : PE), h[i]? = some e → cE cs ad' e = cE cs ad e
  | [], _, i, v, hv => by simp at hv
  | .inl x :: L, h, i, v, hv => by
    cases i with
    | zero => simp at hv; subst hv; rfl
    | succ i => exact okH_cE ha (show okH lo hi L = true from h) i v (by simpa using hv)
  | .inr (ci, fs) :: L, h, i, v, hv => by
    simp only [okH, Bool.and_eq_true] at h
    cases i with
    | zero =>
      simp at hv; subst hv
      show Sum.inr (ci, fs.map (cV ad')) = Sum.inr (ci, fs.map (cV ad))
      rw [okF_cV ha h.1]
    | succ i => exact okH_cE ha h.2 i v (by simpa using hv)
theorem okH_cW {lo : Nat} {cs : Nat → ClassId} {ad ad' : PR → Nat} {h : PH} (hi : Nat) (ha : smo lo hi ad ad') (hl : h.length ≤ lo) (h1 : okH lo hi h = true) : cW cs ad' h = cW cs ad h := by
  apply List.ext_getElem?
  intro i
  rw [cW_at, cW_at]
  cases he : h[i]? with
  | none => rfl
  | some e =>
    have hi' : i < h.length := (List.getElem?_eq_some_iff.mp he).1
    show some (ad' (.inl i), cE cs ad' e) = some (ad (.inl i), cE cs ad e)
    rw [ha.1 i (Or.inl (by omega)), okH_cE ha h1 i e he]
theorem plr.moved {lo hi : Nat} {ad ad' : PR → Nat} {ls : Array Slot} {nL : Nat} {L : PL} (ha : smo lo hi ad ad') (h1 : okL lo hi L = true) (h : plr ad ls nL L) : plr ad' ls nL L :=
  ⟨h.1, h.2.1, h.2.2.1, fun i v hv => by rw [okL_cV ha h1 i v hv]; exact h.2.2.2 i v hv⟩
/-- the one text that is a constant (at the places 1000000 and 1000001), and String's own switch -/
def EV (sa va : Nat) (A : Nat → Prop) (U : State) (H : Heap) : Prop := vk_R RX3 94 "smgudnltw" sa U ∧ vk_S 1 [9] [[115, 109, 103, 117, 100, 110, 108, 116, 119]] (fun _ => sa) (fun _ => va) A U H ∧ va_Z "java/lang/String" "COMPACT_STRINGS" "Z" (.int 1) A U H
theorem EV.go {sa va : Nat} {A B : Nat → Prop} {s U : State} {H0 H : Heap} (h : EV sa va A s H0) (hW : s.WarmedH U.vm) (hk : ∀ q : Nat, q < H0.size → ¬ A q → H[q]? = H0[q]?) (hAB : ∀ q, B q → A q) : EV sa va B U H :=
  ⟨vk_R.warm hW h.1, vk_S.moved hW.alike (vk_S.narrow (vk_S.kept h.2.1 hk) hAB), va_Z.moved hW.alike (va_Z.narrow (va_Z.kept h.2.2 hk) hAB)⟩
theorem EV.same {sa va : Nat} {A : Nat → Prop} {s U : State} {H : Heap} (h : EV sa va A s H) (hv : U.vm = s.vm) : EV sa va A U H :=
  ⟨vk_R.same hv h.1, vk_S.moved (by rw [hv]; exact Vm.Alike.refl _) h.2.1, va_Z.moved (by rw [hv]; exact Vm.Alike.refl _) h.2.2⟩
def tys (cs : Nat → ClassId) : List (ClassId × FieldType) := [(cs 0, .int), (cs 1, .byte), (cs 2, .boolean)]
/-- what a walk stands on -/
def MC (p : Program) (s : State) (m : MethodId) (args : Array Value) (meth : Method) (c : Code) (own nm : String) (cc : ByteArray) (nL : Nat) (rt : Option FieldType) (D : va_G) (cs : Nat → ClassId) (A : Nat → Prop) (a0 : PR → Nat) : Prop :=
  p.tables.exec = Jvm.exec ∧ c.code = cc ∧ c.maxLocals = nL ∧ s.vm.findClass own = some m.cls ∧ (∀ w ∈ TB, w.before args s = true) ∧ (∀ w ∈ NW, va_Nw w s) ∧ va_K D vwCl (tys cs) s ∧ (∀ q : Nat, s.heap.size ≤ q → A q) ∧ meth.sig.returnType = rt ∧ meth.name = nm ∧ meth.locks = false ∧ EV (a0 (.inl 1000000)) (a0 (.inl 1000001)) A s s.heap
def BK (p : Program) (l : Launch) (e : Env) (R : Room) (s : State) (m : MethodId) (args : Array Value) (below : List Frame) (meth : Method) (c : Code) (nL : Nat) (D : va_G) (cs : Nat → ClassId) (A : Nat → Prop) (n0 : Nat) (a0 : PR → Nat) (Q : State → Prop) (pc cells slots : Nat) (B : Blk) : Prop :=
  ∀ (ad : PR → Nat) (ls : Array Slot) (L : PL) (st : List PV) (h : PH) (H : Heap) (locs : List Loc), ag n0 a0 ad h.length → plr ad ls nL L → va_P D vwCl (cW cs ad h) H → va_D A (cW cs ad h) → va_S A s.heap H locs → B L st h → W p l e R s m args below meth c H locs cells slots Q (F0 m pc ls (st.map (cV ad)))
/-- a method's end: what it answers, what its cells hold then, at which addresses -/
def Qp (D : va_G) (cs : Nat → ClassId) (A : Nat → Prop) (n0 : Nat) (a0 : PR → Nat) (post : Option PV → PH → Prop) : Array Value → State → Outcome → State → Prop := fun _ st oc t =>
  (∃ (r : Option PV) (h' : PH) (ad' : PR → Nat), oc = .returned (r.map (cV ad')) ∧ post r h' ∧ ag n0 a0 ad' h'.length ∧ va_P D vwCl (cW cs ad' h') t.heap ∧ va_D A (cW cs ad' h')) ∧ va_F A st t
def rmD (d mc ms : Nat) : Room := { frames := d, cells := mc, slots := ms, locals := 64 * d }
def prD (D : va_G) (cs : Nat → ClassId) (ad : PR → Nat) (h : PH) (sz : Nat) (U : State) : Prop := U.heap.size = sz ∧ va_P D vwCl (cW cs ad h) U.heap ∧ va_K D vwCl (tys cs) U ∧ va_D (fun _ => True) (cW cs ad h) ∧ (∀ w ∈ NW, va_Nw w U) ∧ EV (ad (.inl 1000000)) (ad (.inl 1000001)) (va_A (cW cs ad h) sz) U U.heap
/-- a method's contract: from these arguments and these cells it returns, and post holds of the answer and of the cells then -/
def MetP (l : Launch) (d : Nat) (y : MethodName) (cc : ByteArray) (maxL : Nat) (rt : Option FieldType) (mc ms : Nat) (as : List PV) (h : PH) (post : Option PV → PH → Prop) : Prop :=
  ∀ (D : va_G) (cs : Nat → ClassId) (ad : PR → Nat) (sz : Nat), Met l y (Cond.code y cc maxL rt :: TB) (rmD d mc ms) (va_Pc (as.map (cV ad)) (prD D cs ad h sz)) (Qp D cs (va_A (cW cs ad h) sz) h.length ad post) mc ms (va_A (cW cs ad h) sz)
def enL (as : List PV) (nL : Nat) : PL := as.map some ++ List.replicate (nL - as.length) none
theorem lg_sl_cV (ad : PR → Nat) : ∀ (as : List PV), lg_sl (as.map (cV ad)) = as.map (fun v => Slot.val (cV ad v))
  | [] => rfl
  | v :: as => by
    have h := lg_sl_cV ad as
    unfold lg_sl at h ⊢
    rw [List.map_cons, List.flatMap_cons, h, cV_cat]
    rfl
theorem plr_entry (ad : PR → Nat) (as : List PV) {nL : Nat} (h : as.length ≤ nL) : plr ad ((lg_sl (as.map (cV ad)) ++ List.replicate (nL - (lg_sl (as.map (cV ad))).length) Slot.unset).toArray) nL (enL as nL) := by
  have hh := lv_entry (as.map (cV ad)) (n := nL) (by rw [lg_sl_cV]; simpa using h)
  refine ⟨hh.1, by simp [enL]; omega, hh.2.1, fun i v hv => ?_⟩
  rw [nth_eq, enL, List.getElem?_append] at hv
  by_cases hi : i < (as.map some).length
  · rw [if_pos hi] at hv
    rw [lg_sl_cV, List.getElem?_toArray, List.getElem?_append, if_pos (by simpa using hi)]
    rw [List.getElem?_map] at hv ⊢
    cases ha : as[i]? with
    | none => rw [ha] at hv; cases hv
    | some w => rw [ha] at hv; cases hv; rfl
  · rw [if_neg hi, List.getElem?_replicate] at hv
    split at hv <;> cases hv
theorem MetP.of {l : Launch} {d : Nat} {y : MethodName} {cc : ByteArray} {maxL : Nat} {rt : Option FieldType} {mc ms : Nat} {as : List PV} {h : PH} {post : Option PV → PH → Prop} {B : Blk} (hy : plainName y.cls = true) (hn : as.length ≤ maxL)
    (body : ∀ p e s m args below meth c D cs A ad, MC p s m args meth c y.cls y.name cc maxL rt D cs A ad → BK p l e (rmD d mc ms) s m args below meth c maxL D cs A h.length ad (MQ below (Qp D cs A h.length ad post) args s mc ms A) 0 0 0 B) (hB : B (enL as maxL) [] h) : MetP l d y cc maxL rt mc ms as h post := by
  intro D cs ad sz
  refine Met.ofW (cc := cc) (maxL := maxL) (ret := rt) hy rfl ?_
  intro p e s m args below meth c s₁ B0 hml hv
  obtain ⟨rfl, hsz, hP, hK, hD, hN, hE⟩ := hv
  subst hsz
  have hts := atoms_spec (ws := Cond.code y cc maxL rt :: TB) B0.pre
  have hX : MC p s m (as.map (cV ad)).toArray meth c y.cls y.name cc maxL rt D cs (va_A (cW cs ad h) s.heap.size) ad :=
    ⟨B0.exec, B0.bytes, hml, findClass_of_methodNamed B0.named, fun w hw => hts w (List.mem_cons_of_mem _ hw), hN, hK, fun q hq => Or.inr hq, B0.returns, (name_of_methodNamed B0.named B0.method).1, B0.notSynchronized, hE⟩
  rw [lg_entry_eq]
  exact body p e s m _ below meth c D cs _ ad hX ad _ (enL as maxL) [] h s.heap [] ⟨Nat.le_refl _, fun _ _ => rfl, fun _ => rfl⟩ (plr_entry ad as hn) hP hD.self va_S.rf hB
theorem MetP.mono {l : Launch} {d : Nat} {y : MethodName} {cc : ByteArray} {maxL : Nat} {rt : Option FieldType} {mc ms : Nat} {as : List PV} {h : PH} {post post' : Option PV → PH → Prop} (H : MetP l d y cc maxL rt mc ms as h post) (hp : ∀ r h', post r h' → post' r h') : MetP l d y cc maxL rt mc ms as h post' := by
  intro D cs ad sz p e ha hc hk s m args below hf happ hpre hK
  obtain ⟨t, o, h1, h2, h3, ⟨⟨⟨r, h', ad', e1, e2, e3⟩, e4⟩, e5⟩⟩ := H D cs ad sz p e ha hc hk s m args below hf happ hpre hK
  exact ⟨t, o, h1, h2, h3, ⟨⟨⟨r, h', ad', e1, hp r h' e2, e3⟩, e4⟩, e5⟩⟩
section LOOP
variable {p : Program} {l : Launch} {e : Env} {R : Room} {s : State} {m : MethodId} {args : Array Value} {below : List Frame} {meth : Method} {c : Code} {nL : Nat} {D : va_G} {cs : Nat → ClassId} {A : Nat → Prop} {n0 : Nat} {a0 : PR → Nat} {Q : State → Prop}
theorem BK.loop {ce sl : Nat → Nat} {body : (Nat → Blk) → Nat → Blk} (hk : ∀ C : Nat → Blk, (∀ pc, BK p l e R s m args below meth c nL D cs A n0 a0 Q pc (ce pc) (sl pc) (C pc)) → ∀ pc, BK p l e R s m args below meth c nL D cs A n0 a0 Q pc (ce pc) (sl pc) (body C pc))
    (I : Nat → Nat → Blk) (hI : ∀ μ pc L st h, I μ pc L st h → body (fun pc' L' st' h' => ∃ μ', μ' < μ ∧ I μ' pc' L' st' h') pc L st h) : ∀ μ pc, BK p l e R s m args below meth c nL D cs A n0 a0 Q pc (ce pc) (sl pc) (I μ pc) := by
  intro μ
  induction μ using Nat.strongRecOn with
  | _ μ ih =>
    intro pc ad ls L st h H locs h1 h2 h3 h4 h5 h6
    refine hk (fun pc' L' st' h' => ∃ μ', μ' < μ ∧ I μ' pc' L' st' h') ?_ pc ad ls L st h H locs h1 h2 h3 h4 h5 (hI μ pc L st h h6)
    intro pc' ad' ls' L' st' h' H' locs' g1 g2 g3 g4 g5 g6
    obtain ⟨μ', hlt, g7⟩ := g6
    exact ih μ' hlt pc' ad' ls' L' st' h' H' locs' g1 g2 g3 g4 g5 g7
end LOOP
def ltb (J : Nat → Blk) (μ : Nat) : Blk := fun L st h => ∃ μ', μ' < μ ∧ J μ' L st h
def exb (J : Nat → Blk) : Blk := fun L st h => ∃ μ, J μ L st h
section LOOP2
variable {p : Program} {l : Launch} {e : Env} {R : Room} {s : State} {m : MethodId} {args : Array Value} {below : List Frame} {meth : Method} {c : Code} {nL : Nat} {D : va_G} {cs : Nat → ClassId} {A : Nat → Prop} {n0 : Nat} {a0 : PR → Nat} {Q : State → Prop} {pc cells slots : Nat}
theorem BK.ltb {J : Nat → Blk} {μ : Nat} (h : ∀ μ', μ' < μ → BK p l e R s m args below meth c nL D cs A n0 a0 Q pc cells slots (J μ')) : BK p l e R s m args below meth c nL D cs A n0 a0 Q pc cells slots (ltb J μ) := by
  intro ad ls L st hh H locs h1 h2 h3 h4 h5 h6
  obtain ⟨μ', hl, h7⟩ := h6
  exact h μ' hl ad ls L st hh H locs h1 h2 h3 h4 h5 h7
theorem BK.exb {J : Nat → Blk} (h : ∀ μ', BK p l e R s m args below meth c nL D cs A n0 a0 Q pc cells slots (J μ')) : BK p l e R s m args below meth c nL D cs A n0 a0 Q pc cells slots (exb J) := by
  intro ad ls L st hh H locs h1 h2 h3 h4 h5 h6
  obtain ⟨μ', h7⟩ := h6
  exact h μ' ad ls L st hh H locs h1 h2 h3 h4 h5 h7
theorem BK.mono {B B' : Blk} (hb : ∀ (L : PL) (st : List PV) (h : PH), B' L st h → B L st h) (h : BK p l e R s m args below meth c nL D cs A n0 a0 Q pc cells slots B) : BK p l e R s m args below meth c nL D cs A n0 a0 Q pc cells slots B' :=
  fun ad ls L st hh H locs h1 h2 h3 h4 h5 h6 => h ad ls L st hh H locs h1 h2 h3 h4 h5 (hb L st hh h6)
end LOOP2
