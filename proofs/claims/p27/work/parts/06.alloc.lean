/-! ===== what makes cells: new arrays, new objects, constructors; switches; Object's own constructor; arraycopy ===== -/
theorem okand {a b c : Bool} (h : (a && b && c) = true) : a = true ∧ b = true ∧ c = true := by
  simp only [Bool.and_eq_true] at h
  exact ⟨h.1.1, h.1.2, h.2⟩
/-- one address more -/
def adp (ad : PR → Nat) (n q : Nat) (j : PR) : Nat := match j with
  | .inl j => if j = n then q else ad (.inl j)
  | .inr t => ad (.inr t)
theorem adp_out {ad : PR → Nat} {n q : Nat} : smo n (n + 1) ad (adp ad n q) := ⟨fun i h => if_neg (by omega), fun _ => rfl⟩
/-- B addresses more -/
def adB (ad ad' : PR → Nat) (n nh B : Nat) (j : PR) : Nat := match j with
  | .inl j => if nh ≤ j ∧ j < nh + B then ad' (.inl (n + (j - nh))) else ad (.inl j)
  | .inr t => ad (.inr t)
theorem adB_out {ad ad' : PR → Nat} {n nh B : Nat} : smo nh (nh + B) ad (adB ad ad' n nh B) := ⟨fun i h => if_neg (by omega), fun _ => rfl⟩
theorem cV_reB {ρ : List Nat} {B nh : Nat} {ad ad' : PR → Nat} (hg : ag ρ.length (adc ρ ad) ad' (ρ.length + B)) (hlt : ∀ (i a : Nat), ρ[i]? = some a → a < nh) {v : PV} (hv : ∀ k, v = .inr (some (.inl k)) → k < ρ.length + B) (hv2 : ∀ a t, v = .inr (some (.inr (some a :: t))) → a < nh ∨ nh + B ≤ a) : cV ad' v = cV (adB ad ad' ρ.length nh B) (re1 ρ B nh v) := by
  rcases v with x | _ | i | _ | ⟨_ | a, t⟩
  · rfl
  · rfl
  · have hv := hv i rfl
    unfold re1
    dsimp only
    split
    · rename_i a ha
      rw [nth_eq] at ha
      have hi : i < ρ.length := (List.getElem?_eq_some_iff.mp ha).1
      show Value.ref (ad' (.inl i)) = .ref (adB ad ad' ρ.length nh B (.inl a))
      rw [adB_out.1 a (Or.inl (hlt i a ha)), hg.2.1 i (Or.inl hi)]
      unfold adc
      dsimp only
      rw [ha]
    · rename_i ha
      rw [nth_eq] at ha
      have hl : ρ.length ≤ i := by simpa using ha
      split
      · show Value.ref (ad' (.inl i)) = .ref (adB ad ad' ρ.length nh B (.inl (nh + (i - ρ.length))))
        unfold adB
        dsimp only
        rw [if_pos (by omega)]
        congr 3
        omega
      · rename_i hb
        rw [Nat.blt_eq.mpr hv] at hb
        cases hb
  · show Value.ref (ad' (.inr [])) = .ref (ad (.inr []))
    rw [hg.2.2]
    rfl
  · show Value.ref (ad' (.inr (none :: t))) = .ref (ad (.inr t))
    rw [hg.2.2]
    rfl
  · show Value.ref (ad' (.inr (some a :: t))) = .ref (adB ad ad' ρ.length nh B (.inl a))
    rw [hg.2.2, adB_out.1 a (hv2 a t rfl)]
    rfl
theorem lt_fk {n lo hi : Nat} : ∀ {l : List PV}, ltF n l = true → fkF lo hi l = true → ∀ v ∈ l, (∀ k, v = .inr (some (.inl k)) → k < n) ∧ ∀ a t, v = .inr (some (.inr (some a :: t))) → a < lo ∨ hi ≤ a
  | [], _, _, v, hv => absurd hv List.not_mem_nil
  | .inl x :: l, h1, h2, v, hv => by
    rcases List.mem_cons.mp hv with rfl | hv
    · exact ⟨fun k z => (by cases z), fun a t z => (by cases z)⟩
    · exact lt_fk (l := l) h1 h2 v hv
  | .inr none :: l, h1, h2, v, hv => by
    rcases List.mem_cons.mp hv with rfl | hv
    · exact ⟨fun k z => (by cases z), fun a t z => (by cases z)⟩
    · exact lt_fk (l := l) h1 h2 v hv
  | .inr (some (.inl i)) :: l, h1, h2, v, hv => by
    simp only [ltF, Bool.and_eq_true] at h1
    rcases List.mem_cons.mp hv with rfl | hv
    · exact ⟨fun k z => (by cases z; exact Nat.blt_eq.mp h1.1), fun a t z => (by cases z)⟩
    · exact lt_fk (l := l) h1.2 h2 v hv
  | .inr (some (.inr [])) :: l, h1, h2, v, hv => by
    rcases List.mem_cons.mp hv with rfl | hv
    · exact ⟨fun k z => (by cases z), fun a t z => (by cases z)⟩
    · exact lt_fk (l := l) h1 h2 v hv
  | .inr (some (.inr (none :: s))) :: l, h1, h2, v, hv => by
    rcases List.mem_cons.mp hv with rfl | hv
    · exact ⟨fun k z => (by cases z), fun a t z => (by cases z)⟩
    · exact lt_fk (l := l) h1 h2 v hv
  | .inr (some (.inr (some b :: s))) :: l, h1, h2, v, hv => by
    simp only [fkF, Bool.and_eq_true, Bool.or_eq_true] at h2
    rcases List.mem_cons.mp hv with rfl | hv
    · exact ⟨fun k z => (by cases z), fun a t z => by cases z; exact h2.1.imp (fun z => by simpa using z) (fun z => by simpa using z)⟩
    · exact lt_fk (l := l) h1 h2.2 v hv
theorem cE_reB {cs : Nat → ClassId} {ρ : List Nat} {B nh : Nat} {ad ad' : PR → Nat} (hg : ag ρ.length (adc ρ ad) ad' (ρ.length + B)) (hlt : ∀ (i a : Nat), ρ[i]? = some a → a < nh) : ∀ {h' : PH}, ltH (ρ.length + B) h' = true → fkH nh (nh + B) h' = true → ∀ (i : Nat) (e : PE), h'[i]? = some e → cE cs ad' e = cE cs (adB ad ad' ρ.length nh B) (re2 ρ B nh e)
  | [], _, _, i, e, he => by simp at he
  | .inl x :: h', h, hf, i, e, he => by
    cases i with
    | zero => simp at he; subst he; rfl
    | succ i => exact cE_reB hg hlt (h' := h') h hf i e (by simpa using he)
  | .inr (ci, fs) :: h', h, hf, i, e, he => by
    simp only [ltH, Bool.and_eq_true] at h
    simp only [fkH, Bool.and_eq_true] at hf
    cases i with
    | zero =>
      simp at he
      subst he
      show Sum.inr (ci, fs.map (cV ad')) = Sum.inr (ci, (fs.map (re1 ρ B nh)).map (cV (adB ad ad' ρ.length nh B)))
      rw [List.map_map]
      exact congrArg (fun z => Sum.inr (ci, z)) (List.map_congr_left fun v hv => cV_reB hg hlt (lt_fk h.1 hf.1 v hv).1 (lt_fk h.1 hf.1 v hv).2)
    | succ i => exact cE_reB hg hlt (h' := h') h.2 hf.2 i e (by simpa using he)
def nrF : List PV → Bool
  | [] => true
  | .inl _ :: l => nrF l
  | .inr none :: l => nrF l
  | .inr (some _) :: _ => false
theorem nrF_cV {b1 b2 : PR → Nat} : ∀ {l : List PV}, nrF l = true → l.map (cV b1) = l.map (cV b2)
  | [], _ => rfl
  | .inl x :: l, h => by rw [List.map_cons, List.map_cons, nrF_cV (l := l) h]; rfl
  | .inr none :: l, h => by rw [List.map_cons, List.map_cons, nrF_cV (l := l) h]; rfl
  | .inr (some a) :: l, h => by cases h
def o_oini (k : Blk) : Blk := fun L st h => match st with
  | .inr (some _) :: r => Nat.ble r.length 8 = true ∧ k L r h
  | _ => False
def o_acopy (k : Blk) : Blk := fun L st h => match st with
  | .inl n :: .inl dp :: .inr (some (.inl a)) :: .inl sp :: .inr (some (.inl a')) :: r => match nth h a', nth h a with
    | some (.inl (0, n0, f)), some (.inl (0, n1, g)) => Nat.ble r.length 8 = true ∧ ¬ sp < 0 ∧ ¬ dp < 0 ∧ ¬ n < 0 ∧ sp.toNatClampNeg + n.toNatClampNeg ≤ n0 ∧ dp.toNatClampNeg + n.toNatClampNeg ≤ n1 ∧ put h a (.inl (0, n1, va_cpy f g sp.toNatClampNeg dp.toNatClampNeg n.toNatClampNeg)) (fun h' => k L r h')
    | _, _ => False
  | _ => False
def NA (ty : FieldType) (t : Nat) : Prop := Cond.arrayClass ty ∈ TB ∧ ((t = 0 ∧ ty = .int) ∨ (t = 1 ∧ ty = .byte) ∨ (t = 2 ∧ ty = .boolean))
def NO (own : String) (idx ci : Nat) (fs : List PV) : Prop := ∃ (C : String) (T : u_T) (N : Nat) (t0 : Nat → FieldType), vwCl[ci]? = some (C, T, N) ∧ fs.length = N ∧ (∀ w ∈ u_ws C T N, w ∈ TB) ∧ (∀ k, k < N → parseFieldDescriptor (T k).2.2.1 = some (t0 k)) ∧ Cond.classLink own idx C ∈ TB ∧ Cond.instantiable C N ∈ TB ∧ Cond.initialized C ∈ TB ∧ ∀ (ad : PR → Nat) (j : Nat), j < N → defaultValue (t0 j) = vp_V (fs.map (cV ad)) j
section ALLOC
variable {p : Program} {l : Launch} {e : Env} {R : Room} {s : State} {m : MethodId} {args : Array Value} {below : List Frame} {meth : Method} {c : Code} {own nm : String} {cc : ByteArray} {nL : Nat} {rt : Option FieldType} {D : va_G} {cs : Nat → ClassId} {A : Nat → Prop} {n0 : Nat} {a0 : PR → Nat} {Q : State → Prop} {pc cells slots : Nat} {k kt kf : Blk}
/-- behind a new cell -/
theorem p_new {ad : PR → Nat} {ls : Array Slot} {L : PL} {st : List PV} {h : PH} {H1 : Heap} {locs1 : List Loc} {e0 : PE} {q pc' cells' slots' : Nat} (hg : ag n0 a0 ad h.length) (hl : plr ad ls nL L) (ho : (okL h.length (h.length + 1) L && okF h.length (h.length + 1) st && okH h.length (h.length + 1) h) = true) (he : cE cs (adp ad h.length q) e0 = cE cs ad e0)
    (hP : va_P D vwCl (cW cs ad h ++ [(q, cE cs ad e0)]) H1) (hD : va_D A (cW cs ad h ++ [(q, cE cs ad e0)])) (hS : va_S A s.heap H1 locs1) (hB : k L (.inr (some (.inl h.length)) :: st) (h ++ [e0])) (hk : BK p l e R s m args below meth c nL D cs A n0 a0 Q pc' cells' slots' k) : W p l e R s m args below meth c H1 locs1 cells' slots' Q (F0 m pc' ls (.ref q :: st.map (cV ad))) := by
  obtain ⟨o1, o2, o3⟩ := okand ho
  have ew : cW cs (adp ad h.length q) (h ++ [e0]) = cW cs ad h ++ [(q, cE cs ad e0)] := by
    rw [cW_push, okH_cW _ adp_out (Nat.le_refl _) o3, he]
    have : adp ad h.length q (.inl h.length) = q := if_pos rfl
    rw [this]
  have h9 := hk (adp ad h.length q) ls L (.inr (some (.inl h.length)) :: st) (h ++ [e0]) H1 locs1 ⟨by simp; have := hg.1; omega, fun i hi => by
    rw [List.length_append] at hi
    have hi : i < n0 ∨ h.length + 1 ≤ i := hi
    have h1 := hg.1
    rw [adp_out.1 i (by omega)]
    exact hg.2.1 i (by omega), fun t => hg.2.2 t⟩ (hl.moved adp_out o1) (by rw [ew]; exact hP) (by rw [ew]; exact hD) hS hB
  rw [List.map_cons, okF_cV adp_out o2] at h9
  have h8 : cV (adp ad h.length q) (.inr (some (.inl h.length))) = .ref q := by
    show Value.ref (adp ad h.length q (.inl h.length)) = _
    rw [show adp ad h.length q (.inl h.length) = q from if_pos rfl]
  rw [h8] at h9
  exact h9
theorem ofNat_lit {N : Nat} (h : N < 2 ^ 31) : ¬ (Int32.ofNat N < 0) ∧ (Int32.ofNat N).toNatClampNeg = N := ⟨nI_pos h, nI_clamp h⟩
theorem ok_newa (X : MC p s m args meth c own nm cc nL rt D cs A a0) {at_ : ArrayType} {t N : Nat} (hd : decode cc pc = .ok (.newarray at_, 2)) (hw : NA (newarray.typeOf at_) t) (hN : N < 100000) (hc : cells + 1 ≤ R.cells) (hs : slots + N ≤ R.slots) (hk : BK p l e R s m args below meth c nL D cs A n0 a0 Q (pc + 2) (cells + 1) (slots + N) k) : BK p l e R s m args below meth c nL D cs A n0 a0 Q pc cells slots (o_newa t N k) := by
  intro ad ls L st h H locs hg hl hP hD hS hB
  unfold o_newa at hB
  split at hB
  · rename_i n r
    obtain ⟨rfl, ho, hB⟩ := hB
    have hB := snoc_spec _ _ _ hB
    obtain ⟨hn1, hn2⟩ := ofNat_lit (N := N) (by omega)
    have hcls : ∀ (cA : ClassId), s.vm.findClass ("[" ++ (newarray.typeOf at_).toString) = some cA → cA = cs t := by
      intro cA hcA
      have hK := X.2.2.2.2.2.2.1
      rcases hw.2 with ⟨rfl, h2⟩ | ⟨rfl, h2⟩ | ⟨rfl, h2⟩
      · have h3 : s.vm.findClass ("[" ++ FieldType.int.toString) = some (cs 0) := (hK.2 0 _ rfl).2
        rw [h2] at hcA
        exact Option.some.inj (hcA.symm.trans h3)
      · have h3 : s.vm.findClass ("[" ++ FieldType.byte.toString) = some (cs 1) := (hK.2 1 _ rfl).2
        rw [h2] at hcA
        exact Option.some.inj (hcA.symm.trans h3)
      · have h3 : s.vm.findClass ("[" ++ FieldType.boolean.toString) = some (cs 2) := (hK.2 2 _ rfl).2
        rw [h2] at hcA
        exact Option.some.inj (hcA.symm.trans h3)
    have hdv : (fun _ : Nat => defaultValue (newarray.typeOf at_)) = fun _ : Nat => Value.int 0 := by
      rcases hw.2 with ⟨-, h2⟩ | ⟨-, h2⟩ | ⟨-, h2⟩ <;> rw [h2] <;> rfl
    have hcb : componentBytes (newarray.typeOf at_) ≤ 4 := by
      rcases hw.2 with ⟨-, h2⟩ | ⟨-, h2⟩ | ⟨-, h2⟩ <;> rw [h2] <;> decide +kernel
    refine va_newaK X.1 X.2.1 (X.2.2.2.2.1 _ hw.1) rfl hd (n := Int32.ofNat N) (N := N) (rest := r.map (cV ad)) rfl hn1 hn2 (by have := Nat.mul_le_mul (Nat.le_of_lt hN) hcb; omega) hc hs rfl (fun H1 cA e1 z1 o1 hAr hNm => ?_)
    have hcA := hcls cA hNm
    subst hcA
    have hkk : ∀ (j : Nat) (x : Nat × va_E), (cW cs ad h)[j]? = some x → H1[x.1]? = H[x.1]? := fun j x hx => o1 x.1 ((hP j x hx).lt)
    refine p_new (e0 := .inl (t, N, fun _ => 0)) (q := H.size) hg hl ho rfl ((hP.kept hkk).app (fun j x hx => ?_)) (hD.push hP rfl (X.2.2.2.2.2.2.2.1 _ hS.1)) ⟨Nat.le_trans hS.1 (by omega), fun x h1 h2 => (o1 x (Nat.lt_of_lt_of_le h1 hS.1)).trans (hS.2.1 x h1 h2), hS.2.2⟩ hB hk
    have hz : j < 1 := (List.getElem?_eq_some_iff.mp hx).1
    rw [show j = 0 by omega] at hx
    cases hx
    show H1[H.size]? = some (vp_cell (cs t) (N, .inl fun _ => 0))
    rw [vp_cell_i, e1, hdv]
  · exact hB.elim
theorem ok_new (X : MC p s m args meth c own nm cc nL rt D cs A a0) {idx ci N : Nat} {fs : List PV} (hd : decode cc pc = .ok (.new idx, 3)) (hw : NO own idx ci fs) (hN : fs.length = N) (hc : cells + 1 ≤ R.cells) (hs : slots + N ≤ R.slots) (hfs : nrF fs = true) (hk : BK p l e R s m args below meth c nL D cs A n0 a0 Q (pc + 3) (cells + 1) (slots + N) k) : BK p l e R s m args below meth c nL D cs A n0 a0 Q pc cells slots (o_new ci fs k) := by
  intro ad ls L st h H locs hg hl hP hD hS hB
  obtain ⟨C, T, N', t0, w1, w2, w3, w4, w5, w6, w7, w8⟩ := hw
  obtain ⟨ho, hB⟩ := hB
  have hB := snoc_spec _ _ _ hB
  have hNN : N' = N := w2.symm.trans hN
  subst hNN
  refine va_new (fs := fs.map (cV ad)) X.1 X.2.1 X.2.2.2.2.1 w3 t0 w4 X.2.2.2.1 (X.2.2.2.2.1 _ w5) (X.2.2.2.2.1 _ w6) (X.2.2.2.2.1 _ w7) X.2.2.2.2.2.2.1 hP hD hS X.2.2.2.2.2.2.2.1 w1 (w8 ad) hc hs hd (fun q H1 hP1 hD1 hS1 => ?_)
  refine p_new (e0 := .inr (ci, fs)) hg hl ho ?_ hP1 hD1 hS1 hB hk
  show Sum.inr (ci, fs.map (cV _)) = Sum.inr (ci, fs.map (cV ad))
  rw [nrF_cV hfs]
theorem ok_sw0 (X : MC p s m args meth c own nm cc nL rt D cs A a0) {dflt : Int} {ps : Array (Int × Int)} {len tgt : Nat} (hd : decode cc pc = .ok (.lookupswitch dflt ps, len)) (hp : (ps.toList.zip (ps.toList.drop 1)).all (fun (a, next) => a.1 < next.1) = true) (kd : Blk) (ht : (pc : Int) + dflt = (tgt : Int)) (hkd : BK p l e R s m args below meth c nL D cs A n0 a0 Q tgt cells slots kd) :
    ∀ (ks : List (Int32 × Blk)) (qs : List (Int × Int)) (ts : List Nat), qs.length = ks.length → ts.length = ks.length → (∀ (i : Nat) (v : Int32) (kb : Blk) (a o : Int) (t : Nat), ks[i]? = some (v, kb) → qs[i]? = some (a, o) → ts[i]? = some t → v.toInt = a ∧ (pc : Int) + o = (t : Int) ∧ BK p l e R s m args below meth c nL D cs A n0 a0 Q t cells slots kb) →
    ∀ (ad : PR → Nat) (ls : Array Slot) (L : PL) (x : Int32) (r : List PV) (h : PH) (H : Heap) (locs : List Loc), ag n0 a0 ad h.length → plr ad ls nL L → va_P D vwCl (cW cs ad h) H → va_D A (cW cs ad h) → va_S A s.heap H locs → Op.lookupswitch.offset ps.toList dflt x.toInt = Op.lookupswitch.offset qs dflt x.toInt → o_sw kd ks L (.inl x :: r) h → W p l e R s m args below meth c H locs cells slots Q (F0 m pc ls (.int x :: r.map (cV ad)))
  | [], qs, ts, hq, hts, hks, ad, ls, L, x, r, h, H, locs, hg, hl, hP, hD, hS, ho, hB => by
    have : qs = [] := List.eq_nil_of_length_eq_zero hq
    subst this
    exact lv_lookup X.1 X.2.1 hd hp (ho.trans rfl) ht (hkd ad ls L r h H locs hg hl hP hD hS hB)
  | (v, kb) :: ks, [], ts, hq, hts, hks, ad, ls, L, x, r, h, H, locs, hg, hl, hP, hD, hS, ho, hB => by cases hq
  | (v, kb) :: ks, (a, o) :: qs, [], hq, hts, hks, ad, ls, L, x, r, h, H, locs, hg, hl, hP, hD, hS, ho, hB => by cases hts
  | (v, kb) :: ks, (a, o) :: qs, t :: ts, hq, hts, hks, ad, ls, L, x, r, h, H, locs, hg, hl, hP, hD, hS, ho, hB => by
    have hB : (x = v → kb L r h) ∧ (¬ x = v → o_sw kd ks L (.inl x :: r) h) := hB
    obtain ⟨h1, h2, h3⟩ := hks 0 v kb a o t rfl rfl rfl
    by_cases hx : x = v
    · refine lv_lookup X.1 X.2.1 hd hp (off := o) (ho.trans ?_) h2 (h3 ad ls L r h H locs hg hl hP hD hS (hB.1 hx))
      rw [Op.lookupswitch.offset_cons, if_pos (by rw [hx, h1])]
    · refine ok_sw0 X hd hp kd ht hkd ks qs ts (by simpa using hq) (by simpa using hts) (fun i v' kb' a' o' t' g1 g2 g3 => hks (i + 1) v' kb' a' o' t' (by simpa using g1) (by simpa using g2) (by simpa using g3)) ad ls L x r h H locs hg hl hP hD hS ?_ (hB.2 hx)
      rw [ho]
      exact lv_osw hx h1
theorem ok_lsw (X : MC p s m args meth c own nm cc nL rt D cs A a0) {dflt : Int} {ps : Array (Int × Int)} {len tgt : Nat} (hd : decode cc pc = .ok (.lookupswitch dflt ps, len)) (hp : (ps.toList.zip (ps.toList.drop 1)).all (fun (a, next) => a.1 < next.1) = true) {kd : Blk} (ht : (pc : Int) + dflt = (tgt : Int)) {ks : List (Int32 × Blk)} (ts : List Nat) (hq : ps.toList.length = ks.length) (hts : ts.length = ks.length) (hkd : BK p l e R s m args below meth c nL D cs A n0 a0 Q tgt cells slots kd) (hks : ∀ (i : Nat) (v : Int32) (kb : Blk) (a o : Int) (t : Nat), ks[i]? = some (v, kb) → ps.toList[i]? = some (a, o) → ts[i]? = some t → v.toInt = a ∧ (pc : Int) + o = (t : Int) ∧ BK p l e R s m args below meth c nL D cs A n0 a0 Q t cells slots kb) : BK p l e R s m args below meth c nL D cs A n0 a0 Q pc cells slots (o_sw kd ks) := by
  intro ad ls L st h H locs hg hl hP hD hS hB
  have hst : ∃ (x : Int32) (r : List PV), st = .inl x :: r := by
    cases ks with
    | nil =>
      unfold o_sw at hB
      split at hB
      · exact ⟨_, _, rfl⟩
      · exact hB.elim
    | cons q ks =>
      obtain ⟨v, kb⟩ := q
      unfold o_sw at hB
      split at hB
      · exact ⟨_, _, rfl⟩
      · exact hB.elim
  obtain ⟨x, r, rfl⟩ := hst
  exact ok_sw0 X hd hp kd ht hkd ks ps.toList ts hq hts hks ad ls L x r h H locs hg hl hP hD hS rfl hB
/-- a table: the places from v0 on -/
theorem ok_tsw0 (X : MC p s m args meth c own nm cc nL rt D cs A a0) {dflt lo hi : Int} {offs : Array Int} {len tgt : Nat} (hd : decode cc pc = .ok (.tableswitch dflt lo hi offs, len)) (kd : Blk) (ht : (pc : Int) + dflt = (tgt : Int)) (hkd : BK p l e R s m args below meth c nL D cs A n0 a0 Q tgt cells slots kd) :
    ∀ (ks : List (Int32 × Blk)) (b : Nat) (ts : List Nat), lo + (b + ks.length : Nat) = hi + 1 → ts.length = ks.length → (∀ (i : Nat) (v : Int32) (kb : Blk) (t : Nat), ks[i]? = some (v, kb) → ts[i]? = some t → v.toInt = lo + (b + i : Nat) ∧ (∃ o : Int, offs[b + i]? = some o ∧ (pc : Int) + o = (t : Int)) ∧ BK p l e R s m args below meth c nL D cs A n0 a0 Q t cells slots kb) →
    ∀ (ad : PR → Nat) (ls : Array Slot) (L : PL) (x : Int32) (r : List PV) (h : PH) (H : Heap) (locs : List Loc), ag n0 a0 ad h.length → plr ad ls nL L → va_P D vwCl (cW cs ad h) H → va_D A (cW cs ad h) → va_S A s.heap H locs → (x.toInt < lo ∨ lo + (b : Nat) ≤ x.toInt) → o_sw kd ks L (.inl x :: r) h → W p l e R s m args below meth c H locs cells slots Q (F0 m pc ls (.int x :: r.map (cV ad)))
  | [], b, ts, hlen, hts, hks, ad, ls, L, x, r, h, H, locs, hg, hl, hP, hD, hS, ho, hB => by
    exact lv_tableOut X.1 X.2.1 hd (by simp at hlen; omega) ht (hkd ad ls L r h H locs hg hl hP hD hS hB)
  | (v, kb) :: ks, b, [], hlen, hts, hks, ad, ls, L, x, r, h, H, locs, hg, hl, hP, hD, hS, ho, hB => by cases hts
  | (v, kb) :: ks, b, t :: ts, hlen, hts, hks, ad, ls, L, x, r, h, H, locs, hg, hl, hP, hD, hS, ho, hB => by
    have hB : (x = v → kb L r h) ∧ (¬ x = v → o_sw kd ks L (.inl x :: r) h) := hB
    obtain ⟨h1, ⟨o, h2, h2'⟩, h3⟩ := hks 0 v kb t rfl rfl
    rw [List.length_cons] at hlen
    by_cases hx : x = v
    · subst hx
      refine lv_tableIn X.1 X.2.1 hd (off := o) (by omega) (by omega) ?_ h2' (h3 ad ls L r h H locs hg hl hP hD hS (hB.1 rfl))
      rw [← h2]
      congr 1
      omega
    · refine ok_tsw0 X hd kd ht hkd ks (b + 1) ts (by rw [← hlen]; congr 1; omega) (by simpa using hts) (fun i v' kb' t' g1 g3 => ?_) ad ls L x r h H locs hg hl hP hD hS ?_ (hB.2 hx)
      · rw [show b + 1 + i = b + (i + 1) by omega]
        exact hks (i + 1) v' kb' t' (by simpa using g1) (by simpa using g3)
      · have : ¬ x.toInt = v.toInt := fun z => hx (Int32.toInt_inj.mp z)
        omega
theorem ok_tsw (X : MC p s m args meth c own nm cc nL rt D cs A a0) {dflt lo hi : Int} {offs : Array Int} {len tgt : Nat} (hd : decode cc pc = .ok (.tableswitch dflt lo hi offs, len)) {kd : Blk} (ht : (pc : Int) + dflt = (tgt : Int)) {ks : List (Int32 × Blk)} (ts : List Nat) (hlen : lo + (ks.length : Nat) = hi + 1) (hts : ts.length = ks.length) (hkd : BK p l e R s m args below meth c nL D cs A n0 a0 Q tgt cells slots kd) (hks : ∀ (i : Nat) (v : Int32) (kb : Blk) (t : Nat), ks[i]? = some (v, kb) → ts[i]? = some t → v.toInt = lo + (i : Nat) ∧ (∃ o : Int, offs[i]? = some o ∧ (pc : Int) + o = (t : Int)) ∧ BK p l e R s m args below meth c nL D cs A n0 a0 Q t cells slots kb) : BK p l e R s m args below meth c nL D cs A n0 a0 Q pc cells slots (o_sw kd ks) := by
  intro ad ls L st h H locs hg hl hP hD hS hB
  have hst : ∃ (x : Int32) (r : List PV), st = .inl x :: r := by
    cases ks with
    | nil =>
      unfold o_sw at hB
      split at hB
      · exact ⟨_, _, rfl⟩
      · exact hB.elim
    | cons q ks =>
      obtain ⟨v, kb⟩ := q
      unfold o_sw at hB
      split at hB
      · exact ⟨_, _, rfl⟩
      · exact hB.elim
  obtain ⟨x, r, rfl⟩ := hst
  exact ok_tsw0 X hd kd ht hkd ks 0 ts (by simpa using hlen) hts (fun i v kb t g1 g2 => by simpa using hks i v kb t g1 g2) ad ls L x r h H locs hg hl hP hD hS (by omega) hB
theorem ok_oini (X : MC p s m args meth c own nm cc nL rt D cs A a0) {idx : Nat} (hd : decode cc pc = .ok (.invokespecial idx, 3)) (h1 : Cond.methodLink own idx Lib.objectInit ∈ TB) (h2 : Cond.instanceMethod Lib.objectInit ∈ TB) (h3 : Cond.code Lib.objectInit ⟨#[0xb1]⟩ 1 none ∈ TB) (hR : 1 ≤ R.frames ∧ 64 ≤ R.locals) (hk : BK p l e R s m args below meth c nL D cs A n0 a0 Q (pc + 3) cells slots k) : BK p l e R s m args below meth c nL D cs A n0 a0 Q pc cells slots (o_oini k) := by
  intro ad ls L st h H locs hg hl hP hD hS hB
  unfold o_oini at hB
  split at hB
  · rename_i a r
    refine W.objInit X.1 X.2.1 X.2.2.2.1 (X.2.2.2.2.1 _ h1) (X.2.2.2.2.1 _ h2) (X.2.2.2.2.1 _ h3) rfl (by rw [X.2.2.1]; exact hl.1) (rest := r.map (cV ad)) rfl hd hR.1 (by
      rw [cV_sum]
      have := Nat.ble_eq.mp hB.1
      have h0 : (F0 m pc ls (List.map (cV ad) (Sum.inr (some a) :: r))).monitorRoom = 0 := rfl
      rw [h0]
      omega) (hk ad ls L r h H locs hg hl hP hD hS hB.2)
  · exact hB.elim
/-- System.arraycopy of whole rows of ints -/
theorem ok_acopy (X : MC p s m args meth c own nm cc nL rt D cs A a0) {idx : Nat} (hd : decode cc pc = .ok (.invokestatic idx, 3)) (h1 : Cond.methodLink own idx arraycopyName ∈ TB) (h2 : Cond.native arraycopyName ∈ TB) (h3 : Cond.static arraycopyName ∈ TB) (h4 : Cond.initialized "java/lang/System" ∈ TB) (hR : 1 ≤ R.frames ∧ 64 ≤ R.locals) (hk : BK p l e R s m args below meth c nL D cs A n0 a0 Q (pc + 3) cells slots k) : BK p l e R s m args below meth c nL D cs A n0 a0 Q pc cells slots (o_acopy k) := by
  intro ad ls L st h H locs hg hl hP hD hS hB
  unfold o_acopy at hB
  split at hB
  · rename_i n dp a sp a' r
    split at hB
    · rename_i n0' f n1' g he0 he1
      rw [nth_eq] at he0 he1
      obtain ⟨b1, b2, b3, b4, b5, b6, hB⟩ := hB
      obtain ⟨q6, q7⟩ := put_spec _ _ _ _ hB
      refine va_copyi (ty := .int) X.1 X.2.1 (by rw [X.2.2.1]; exact hl.1.symm) X.2.2.2.1 (X.2.2.2.2.1 _ h1) (X.2.2.2.2.1 _ h2) (X.2.2.2.2.1 _ h3) (X.2.2.2.2.1 _ h4) X.2.2.2.2.2.2.1 hP hD hS a' a 0 0 (cW_get he0) (cW_get he1) rfl rfl rfl b2 b3 b4 b5 b6 (fun _ _ => rfl) hR.1 (by
        rw [cV_sum]
        have := Nat.ble_eq.mp b1
        have h0 : nativeFrameWords "java/lang/System" "arraycopy" 5 + 11 ≤ 40 := by decide +kernel
        omega) hd (fun H1 locs1 hP1 hD1 hS1 => ?_)
      exact hk ad ls L r _ H1 locs1 (by rw [List.length_set]; exact hg) hl (by rw [cW_set]; exact hP1) (by rw [cW_set]; exact hD1) hS1 q7
    · exact hB.elim
  · exact hB.elim
/-- behind a call that made B cells -/
theorem p_afterB (X : MC p s m args meth c own nm cc nL rt D cs A a0) {ad : PR → Nat} {ls : Array Slot} {L : PL} {rest : List PV} {h hc h' : PH} {H H1 : Heap} {locs locs1 : List Loc} {ρ : List Nat} {B : Nat} {ad' : PR → Nat} {cells' slots' : Nat} (hg : ag n0 a0 ad h.length) (hl : plr ad ls nL L) (hP : va_P D vwCl (cW cs ad h) H) (hD : va_D A (cW cs ad h)) (hS : va_S A s.heap H locs) (hnd : va_nd ρ = true) (ho : (okL h.length (h.length + B) L && okF h.length (h.length + B) rest && okH h.length (h.length + B) h) = true) (hcl : hc.length = ρ.length) (hsub : ρ.map (fun a => (cW cs ad h)[a]?) = (cW cs (adc ρ ad) hc).map some)
    (hg1 : ag hc.length (adc ρ ad) ad' h'.length) (hP1 : va_P D vwCl (cW cs ad' h') H1) (hD1 : va_D (va_A (cW cs (adc ρ ad) hc) H.size) (cW cs ad' h')) (hk1 : ∀ q : Nat, q < H.size → ¬ va_A (cW cs (adc ρ ad) hc) H.size q → H1[q]? = H[q]?) (hS1 : va_S A s.heap H1 locs1)
    (ho' : ltH (ρ.length + B) h' = true) (ho2 : fkH h.length (h.length + B) h' = true) (hB : wbK ρ B h.length ρ h' h (fun h2 => k L rest h2)) (hk : BK p l e R s m args below meth c nL D cs A n0 a0 Q (pc + 3) cells' slots' k) : W p l e R s m args below meth c H1 locs1 cells' slots' Q (F0 m (pc + 3) ls (rest.map (cV ad))) := by
  obtain ⟨o1, o2, o3⟩ := okand ho
  obtain ⟨h2, hB, hh1, hh2, hh3, hh4, hh5⟩ := wbK_spec ρ B h.length ρ h' h _ (nd_inj hnd) hB
  rw [hh1, hcl] at hg1
  have hlt : ∀ (i a : Nat), ρ[i]? = some a → a < h.length := fun i a hi => (hh3 i a hi).1
  have hre : ∀ (i : Nat) (e1 : PE), h'[i]? = some e1 → cE cs ad' e1 = cE cs (adB ad ad' ρ.length h.length B) (re2 ρ B h.length e1) := fun i e1 he => cE_reB hg1 hlt ho' ho2 i e1 he
  have hw := p_world (ad2 := adB ad ad' ρ.length h.length B) (h2 := h2) hP hD hS X.2.2.2.2.2.2.2.1 (nd_inj hnd) hsub hk1 hP1 hD1 (fun x q hq => by
    rw [cW_at] at hq
    cases he : h2[x]? with
    | none => rw [he] at hq; cases hq
    | some e2 =>
      rw [he] at hq
      have hq' : (adB ad ad' ρ.length h.length B (.inl x), cE cs (adB ad ad' ρ.length h.length B) e2) = q := by simpa using hq
      subst hq'
      by_cases hx : x ∈ ρ
      · obtain ⟨i, hi⟩ := List.getElem?_of_mem hx
        refine Or.inr ⟨i, Or.inl hi, ?_⟩
        have h3 := (hh3 i x hi).2
        rw [he] at h3
        cases he' : h'[i]? with
        | none => rw [he'] at h3; cases h3
        | some e1 =>
          rw [he'] at h3
          have h4 : e2 = re2 ρ B h.length e1 := by simpa using h3
          rw [cW_get he', h4, hre i e1 he', adB_out.1 x (Or.inl (hlt i x hi)), hg1.2.1 i (Or.inl (List.getElem?_eq_some_iff.mp hi).1)]
          unfold adc
          dsimp only
          rw [hi]
      · have hxl : x < h.length + B := by
          have := (List.getElem?_eq_some_iff.mp he).1
          omega
        by_cases hxh : x < h.length
        · refine Or.inl ⟨hx, ?_⟩
          rw [hh4 x hxh hx] at he
          rw [cW_get he, adB_out.1 x (Or.inl hxh), okH_cE adB_out o3 x e2 he]
        · refine Or.inr ⟨ρ.length + (x - h.length), Or.inr ⟨by omega, by omega⟩, ?_⟩
          have h5 := hh5 (x - h.length) (by omega)
          rw [show h.length + (x - h.length) = x by omega, he] at h5
          cases he' : h'[ρ.length + (x - h.length)]? with
          | none => rw [he'] at h5; cases h5
          | some e1 =>
            rw [he'] at h5
            have h4 : e2 = re2 ρ B h.length e1 := by simpa using h5
            rw [cW_get he', h4, hre _ e1 he']
            have h6 : adB ad ad' ρ.length h.length B (.inl x) = ad' (.inl (ρ.length + (x - h.length))) := if_pos (by omega)
            rw [h6]) hlt
  have h9 := hk (adB ad ad' ρ.length h.length B) ls L rest h2 H1 locs1 ⟨by have := hg.1; omega, fun i hi => by
    rw [hh2] at hi
    have h1 := hg.1
    rw [adB_out.1 i (by omega)]
    exact hg.2.1 i (by omega), fun t => hg.2.2 t⟩ (hl.moved adB_out o1) hw.1 hw.2 hS1 hB
  rw [okF_cV adB_out o2] at h9
  exact h9
theorem ok_callI (X : MC p s m args meth c own nm cc nL rt D cs A a0) {d idx n maxL B ms : Nat} {y : MethodName} {cc' : ByteArray} {ρ : List Nat} (hd : decode cc pc = .ok (.invokespecial idx, 3)) (hL : MLI own idx y cc' maxL n) (hR : d + 1 ≤ R.frames ∧ 8 + (maxL + 11) + 64 * d ≤ R.locals) (hc0 : cells + B ≤ R.cells) (hs0 : slots + ms ≤ R.slots) (hk : BK p l e R s m args below meth c nL D cs A n0 a0 Q (pc + 3) (cells + B) (slots + ms) k) : BK p l e R s m args below meth c nL D cs A n0 a0 Q pc cells slots (o_callA (MetP l d y cc' maxL none B ms) B (n + 1) ρ k) := by
  intro ad ls L st h H locs hg hl hP hD hS hB
  obtain ⟨as0, rest, hst, hlen, hB⟩ := popN_spec _ _ _ _ hB
  rw [List.append_nil] at hB
  obtain ⟨a, as, has0, hle, hnd, ho, hB⟩ := hB
  subst has0
  obtain ⟨hc, hB, hcl, hcs⟩ := pick_spec _ _ _ _ hB
  rw [unL_eq] at hB
  obtain ⟨post, hM, hB⟩ := hB
  obtain ⟨hle, hρ, hh1⟩ := ble2 hle
  have hh : h.length ≤ 1000000 := by omega
  have hsub := sub_cW (cs := cs) (ad := ad) hρ hcl hcs
  have hfree := va_free (wc := cW cs (adc ρ ad) hc) hD hS X.2.2.2.2.2.2.2.1 ρ hsub
  have hroom : 2 * (F0 m pc ls (st.map (cV ad))).monitorRoom + ((rest.map (cV ad)).map fun v => v.category).sum ≤ 8 := lv_room (by rw [cV_sum]; exact hle)
  have hstk : st.map (cV ad) = (as.map (cV ad)).reverse ++ .ref (ad (.inl a)) :: rest.map (cV ad) := by rw [hst]; simp [cV]
  have hn1 : (as.map (cV ad)).length = n := by simpa using hlen
  refine p_call (A1 := va_A (cW cs (adc ρ ad) hc) H.size) (n1 := hc.length) (a1 := adc ρ ad) (post := post) (rest := rest.map (cV ad)) (mc := B) (ms := ms) (va_runI (b := ad (.inl a)) (As := as.map (cV ad)) ⟨X.1, X.2.1, X.2.2.1, X.2.2.2.1, X.2.2.2.2.1⟩ (hM D cs (adc ρ ad) H.size) ⟨X.callB hL.1 hR (X.2.2.2.2.1 _ hL.2.1), hL.2.2.2, X.2.2.2.2.1 _ hL.2.2.1⟩ ⟨pre_blind, X.pre hg hh hS hρ (as := .inr (some (.inl a)) :: as) hP hD hnd hsub⟩ rfl hn1 hl.1 hstk hroom hd ⟨hc0, hs0⟩) hS hfree (fun r h' ad' H1 locs1 hp hg1 hP1 hD1 hk1 hS1 => ?_)
  obtain ⟨rfl, ho', ho2, hB⟩ := hB r h' hp
  exact p_afterB X hg hl hP hD hS hnd ho hcl hsub hg1 hP1 hD1 hk1 hS1 ho' ho2 hB hk
theorem ok_callIN (X : MC p s m args meth c own nm cc nL rt D cs A a0) {d idx n maxL B ms : Nat} {y : MethodName} {cc' : ByteArray} {ρ : List Nat} (hd : decode cc pc = .ok (.invokespecial idx, 3)) (hL : MLIN own idx y cc' maxL n) (hR : d + 1 ≤ R.frames ∧ 8 + (maxL + 11) + 64 * d ≤ R.locals) (hc0 : cells + B ≤ R.cells) (hs0 : slots + ms ≤ R.slots) (hk : BK p l e R s m args below meth c nL D cs A n0 a0 Q (pc + 3) (cells + B) (slots + ms) k) : BK p l e R s m args below meth c nL D cs A n0 a0 Q pc cells slots (o_callA (MetP l d y cc' maxL none B ms) B (n + 1) ρ k) := by
  intro ad ls L st h H locs hg hl hP hD hS hB
  obtain ⟨as0, rest, hst, hlen, hB⟩ := popN_spec _ _ _ _ hB
  rw [List.append_nil] at hB
  obtain ⟨a, as, has0, hle, hnd, ho, hB⟩ := hB
  subst has0
  obtain ⟨hc, hB, hcl, hcs⟩ := pick_spec _ _ _ _ hB
  rw [unL_eq] at hB
  obtain ⟨post, hM, hB⟩ := hB
  obtain ⟨hle, hρ, hh1⟩ := ble2 hle
  have hh : h.length ≤ 1000000 := by omega
  have hsub := sub_cW (cs := cs) (ad := ad) hρ hcl hcs
  have hfree := va_free (wc := cW cs (adc ρ ad) hc) hD hS X.2.2.2.2.2.2.2.1 ρ hsub
  have hroom : 2 * (F0 m pc ls (st.map (cV ad))).monitorRoom + ((rest.map (cV ad)).map fun v => v.category).sum ≤ 8 := lv_room (by rw [cV_sum]; exact hle)
  have hstk : st.map (cV ad) = (as.map (cV ad)).reverse ++ .ref (ad (.inl a)) :: rest.map (cV ad) := by rw [hst]; simp [cV]
  have hn1 : (as.map (cV ad)).length = n := by simpa using hlen
  obtain ⟨hL1, ⟨host, hL2⟩, hL3, hL4⟩ := hL
  refine p_call (A1 := va_A (cW cs (adc ρ ad) hc) H.size) (n1 := hc.length) (a1 := adc ρ ad) (post := post) (rest := rest.map (cV ad)) (mc := B) (ms := ms) (va_runIN (b := ad (.inl a)) (As := as.map (cV ad)) ⟨X.1, X.2.1, X.2.2.1, X.2.2.2.1, X.2.2.2.2.1⟩ (hM D cs (adc ρ ad) H.size) ⟨X.callN hL1 hR hL2, hL4, X.2.2.2.2.1 _ hL3⟩ ⟨pre_blind, X.pre hg hh hS hρ (as := .inr (some (.inl a)) :: as) hP hD hnd hsub⟩ rfl hn1 hl.1 hstk hroom hd ⟨hc0, hs0⟩) hS hfree (fun r h' ad' H1 locs1 hp hg1 hP1 hD1 hk1 hS1 => ?_)
  obtain ⟨rfl, ho', ho2, hB⟩ := hB r h' hp
  exact p_afterB X hg hl hP hD hS hnd ho hcl hsub hg1 hP1 hD1 hk1 hS1 ho' ho2 hB hk
end ALLOC
