/-! ===== the one constant text ===== -/
def sBy : List Int32 := [115, 109, 103, 117, 100, 110, 108, 116, 119]
def o_ldcs (k : Blk) : Blk := fun L st h => Nat.ble h.length 1000 = true ∧ k L (.inr (some (.inl 1000000)) :: st) h
def o_kcoder (k : Blk) : Blk := fun L st h => match st with
  | .inr (some (.inl a)) :: r => match Nat.beq a 1000000 with
    | true => Nat.ble h.length 1000 = true ∧ k L (.inl 0 :: r) h
    | false => False
  | _ => False
def o_kvalue (k : Blk) : Blk := fun L st h => match st with
  | .inr (some (.inl a)) :: r => match Nat.beq a 1000000 with
    | true => Nat.ble h.length 1000 = true ∧ k L (.inr (some (.inl 1000001)) :: r) h
    | false => False
  | _ => False
def o_klen (k : Blk) : Blk := fun L st h => match st with
  | .inr (some (.inl a)) :: r => match Nat.beq a 1000001 with
    | true => Nat.ble h.length 1000 = true ∧ k L (.inl 9 :: r) h
    | false => False
  | _ => False
def o_kbald (k : Blk) : Blk := fun L st h => match st with
  | .inl i :: .inr (some (.inl a)) :: r => match Nat.beq a 1000001 with
    | true => Nat.ble h.length 1000 = true ∧ vp_in i 9 ∧ k L (.inl (sBy.getD i.toNatClampNeg 0) :: r) h
    | false => False
  | _ => False
def o_callK (M : List PV → PH → (Option PV → PH → Prop) → Prop) (n : Nat) (k : Blk) : Blk := fun L st h =>
  popN n st [] (fun as rest => match as with
    | .inr (some (.inl a)) :: _ => match Nat.beq a 1000000 with
      | true => (Nat.ble rest.length 8 && Nat.ble ([] : List Nat).length 1000 && Nat.ble h.length 1000) = true ∧ va_nd [] = true ∧ pick [] h [] (fun hc => unL [] as (fun as' => ∃ post : Option PV → PH → Prop, M as' hc post ∧ ∀ (r : Option PV) (h' : PH), post r h' → wbK [] 0 h.length [] h' h (fun h2 => match r with
        | none => k L rest h2
        | some v => reK [] 0 h.length v (fun v' => k L (v' :: rest) h2))))
      | false => False
    | _ => False)
def MLK (own : String) (idx : Nat) (y : MethodName) (cc' : ByteArray) (maxL : Nat) (rt' : Option FieldType) (n : Nat) : Prop := MLb y cc' maxL rt' n ∧ Cond.methodLink own idx y ∈ TB ∧ Cond.instanceMethod y ∈ TB ∧ Cond.selects y.cls y y ∈ TB ∧ y.cls = "java/lang/String"
section STR
variable {p : Program} {l : Launch} {e : Env} {R : Room} {s : State} {m : MethodId} {args : Array Value} {below : List Frame} {meth : Method} {c : Code} {own nm : String} {cc : ByteArray} {nL : Nat} {rt : Option FieldType} {D : va_G} {cs : Nat → ClassId} {A : Nat → Prop} {n0 : Nat} {a0 : PR → Nat} {Q : State → Prop} {pc cells slots : Nat} {k kt kf : Blk}
theorem kad {ad : PR → Nat} {n i : Nat} (hg : ag n0 a0 ad n) (hn : Nat.ble n 1000 = true) (hi : 1000000 ≤ i) : ad (.inl i) = a0 (.inl i) := hg.2.1 i (Or.inr (by have := Nat.ble_eq.mp hn; omega))
theorem ok_ldcs (X : MC p s m args meth c RX3 nm cc nL rt D cs A a0) (hd : decode cc pc = .ok (.ldc 94, 2)) (hk : BK p l e R s m args below meth c nL D cs A n0 a0 Q (pc + 2) cells slots k) : BK p l e R s m args below meth c nL D cs A n0 a0 Q pc cells slots (o_ldcs k) := by
  intro ad ls L st h H locs hg hl hP hD hS hB
  have h9 := hk ad ls L (.inr (some (.inl 1000000)) :: st) h H locs hg hl hP hD hS hB.2
  have h8 : cV ad (.inr (some (.inl 1000000))) = .ref (a0 (.inl 1000000)) := congrArg Value.ref (kad hg hB.1 (by omega))
  rw [List.map_cons, h8] at h9
  exact va_ldcS X.1 X.2.1 X.2.2.2.1 X.2.2.2.2.2.2.2.2.2.2.2.1 hd h9
theorem ok_kcoder (X : MC p s m args meth c own nm cc nL rt D cs A a0) {idx : Nat} (hd : decode cc pc = .ok (.getfield idx, 3)) (hw : Cond.fieldLink own idx "java/lang/String" "coder" "B" ∈ TB) (hk : BK p l e R s m args below meth c nL D cs A n0 a0 Q (pc + 3) cells slots k) : BK p l e R s m args below meth c nL D cs A n0 a0 Q pc cells slots (o_kcoder k) := by
  intro ad ls L st h H locs hg hl hP hD hS hB
  unfold o_kcoder at hB
  split at hB
  · rename_i a r
    split at hB
    · rename_i ha
      cases Nat.eq_of_beq_eq_true ha
      have h9 := hk ad ls L (.inl 0 :: r) h H locs hg hl hP hD hS hB.2
      have h8 : cV ad (.inr (some (.inl 1000000))) = .ref (a0 (.inl 1000000)) := congrArg Value.ref (kad hg hB.1 (by omega))
      rw [List.map_cons, h8]
      exact vk_getf X.1 X.2.1 (X.2.2.2.2.2.2.2.2.2.2.2.2.1.1 0 (by omega)).2.1 hS X.2.2.2.1 (X.2.2.2.2.1 _ hw) (fun _ z => z) hd h9
    · exact hB.elim
  · exact hB.elim
theorem ok_kvalue (X : MC p s m args meth c own nm cc nL rt D cs A a0) {idx : Nat} (hd : decode cc pc = .ok (.getfield idx, 3)) (hw : Cond.fieldLink own idx "java/lang/String" "value" "[B" ∈ TB) (hk : BK p l e R s m args below meth c nL D cs A n0 a0 Q (pc + 3) cells slots k) : BK p l e R s m args below meth c nL D cs A n0 a0 Q pc cells slots (o_kvalue k) := by
  intro ad ls L st h H locs hg hl hP hD hS hB
  unfold o_kvalue at hB
  split at hB
  · rename_i a r
    split at hB
    · rename_i ha
      cases Nat.eq_of_beq_eq_true ha
      have h9 := hk ad ls L (.inr (some (.inl 1000001)) :: r) h H locs hg hl hP hD hS hB.2
      have h8 : cV ad (.inr (some (.inl 1000000))) = .ref (a0 (.inl 1000000)) := congrArg Value.ref (kad hg hB.1 (by omega))
      have h7 : cV ad (.inr (some (.inl 1000001))) = .ref (a0 (.inl 1000001)) := congrArg Value.ref (kad hg hB.1 (by omega))
      rw [List.map_cons, h7] at h9
      rw [List.map_cons, h8]
      exact vk_getf X.1 X.2.1 (X.2.2.2.2.2.2.2.2.2.2.2.2.1.1 0 (by omega)).2.2.1 hS X.2.2.2.1 (X.2.2.2.2.1 _ hw) (fun _ z => z) hd h9
    · exact hB.elim
  · exact hB.elim
theorem ok_kstat (X : MC p s m args meth c own nm cc nL rt D cs A a0) {idx : Nat} (hd : decode cc pc = .ok (.getstatic idx, 3)) (hw : Cond.fieldLink own idx "java/lang/String" "COMPACT_STRINGS" "Z" ∈ TB) (hk : BK p l e R s m args below meth c nL D cs A n0 a0 Q (pc + 3) cells slots k) : BK p l e R s m args below meth c nL D cs A n0 a0 Q pc cells slots (o_push (.inl 1) k) := by
  intro ad ls L st h H locs hg hl hP hD hS hB
  exact va_gets X.1 X.2.1 X.2.2.2.2.2.2.2.2.2.2.2.2.2 hS X.2.2.2.1 (X.2.2.2.2.1 _ hw) (fun _ z => z) hd (hk ad ls L (.inl 1 :: st) h H locs hg hl hP hD hS hB)
theorem ok_klen (X : MC p s m args meth c own nm cc nL rt D cs A a0) (hd : decode cc pc = .ok (.arraylength, 1)) (hk : BK p l e R s m args below meth c nL D cs A n0 a0 Q (pc + 1) cells slots k) : BK p l e R s m args below meth c nL D cs A n0 a0 Q pc cells slots (o_klen k) := by
  intro ad ls L st h H locs hg hl hP hD hS hB
  unfold o_klen at hB
  split at hB
  · rename_i a r
    split at hB
    · rename_i ha
      cases Nat.eq_of_beq_eq_true ha
      have h9 := hk ad ls L (.inl 9 :: r) h H locs hg hl hP hD hS hB.2
      have h8 : cV ad (.inr (some (.inl 1000001))) = .ref (a0 (.inl 1000001)) := congrArg Value.ref (kad hg hB.1 (by omega))
      rw [List.map_cons, h8]
      exact va_tlen X.1 X.2.1 (X.2.2.2.2.2.2.2.2.2.2.2.2.1.1 0 (by omega)).2.2.2 hS rfl hd h9
    · exact hB.elim
  · exact hB.elim
theorem ok_kbald (X : MC p s m args meth c own nm cc nL rt D cs A a0) (hd : decode cc pc = .ok (.baload, 1)) (hk : BK p l e R s m args below meth c nL D cs A n0 a0 Q (pc + 1) cells slots k) : BK p l e R s m args below meth c nL D cs A n0 a0 Q pc cells slots (o_kbald k) := by
  intro ad ls L st h H locs hg hl hP hD hS hB
  unfold o_kbald at hB
  split at hB
  · rename_i i a r
    split at hB
    · rename_i ha
      cases Nat.eq_of_beq_eq_true ha
      have h9 := hk ad ls L (.inl (sBy.getD i.toNatClampNeg 0) :: r) h H locs hg hl hP hD hS hB.2.2
      have h8 : cV ad (.inr (some (.inl 1000001))) = .ref (a0 (.inl 1000001)) := congrArg Value.ref (kad hg hB.1 (by omega))
      rw [List.map_cons, List.map_cons, h8]
      exact va_tb X.1 X.2.1 (X.2.2.2.2.2.2.2.2.2.2.2.2.1.1 0 (by omega)).2.2.2 hS hB.2.1 rfl hd h9
    · exact hB.elim
  · exact hB.elim
theorem ok_callK (X : MC p s m args meth c own nm cc nL rt D cs A a0) {d idx n maxL : Nat} {y : MethodName} {cc' : ByteArray} {rt' : Option FieldType} (hd : decode cc pc = .ok (.invokevirtual idx, 3)) (hL : MLK own idx y cc' maxL rt' n) (hR : d + 1 ≤ R.frames ∧ 8 + (maxL + 11) + 64 * d ≤ R.locals) (hc0 : cells ≤ R.cells) (hs0 : slots ≤ R.slots) (hk : BK p l e R s m args below meth c nL D cs A n0 a0 Q (pc + 3) cells slots k) : BK p l e R s m args below meth c nL D cs A n0 a0 Q pc cells slots (o_callK (MetP l d y cc' maxL rt' 0 0) (n + 1) k) := by
  intro ad ls L st h H locs hg hl hP hD hS hB
  obtain ⟨as0, rest, hst, hlen, hB⟩ := popN_spec _ _ _ _ hB
  rw [List.append_nil] at hB
  split at hB
  case h_2 => exact hB.elim
  rename_i a as
  split at hB
  case h_2 => exact hB.elim
  rename_i ha
  cases Nat.eq_of_beq_eq_true ha
  obtain ⟨hle, hnd, hB⟩ := hB
  obtain ⟨hc, hB, hcl, hcs⟩ := pick_spec _ _ _ _ hB
  rw [unL_eq] at hB
  obtain ⟨post, hM, hB⟩ := hB
  obtain ⟨hle, hρ, hh1⟩ := ble2 hle
  have hh : h.length ≤ 1000000 := by omega
  have hsub := sub_cW (cs := cs) (ad := ad) hρ hcl hcs
  have hfree := va_free (wc := cW cs (adc [] ad) hc) hD hS X.2.2.2.2.2.2.2.1 [] hsub
  have hroom : 2 * (F0 m pc ls (st.map (cV ad))).monitorRoom + ((rest.map (cV ad)).map fun v => v.category).sum ≤ 8 := lv_room (by rw [cV_sum]; exact hle)
  have hb : ad (.inl 1000000) = a0 (.inl 1000000) := hg.2.1 _ (Or.inr (by omega))
  have hrecv : ∃ cellB : Cell, H[ad (.inl 1000000)]? = some cellB ∧ cellB.vm.isStatics = false ∧ s.vm.findClass y.cls = some cellB.cls := by
    rw [hb, hL.2.2.2.2]
    exact vk_recv X.2.2.2.2.2.2.2.2.2.2.2.2.1 (i := 0) (by omega) hS
  have hstk : st.map (cV ad) = (as.map (cV ad)).reverse ++ .ref (ad (.inl 1000000)) :: rest.map (cV ad) := by rw [hst]; simp [cV]
  have hn1 : (as.map (cV ad)).length = n := by simpa using hlen
  exact p_call (A1 := va_A (cW cs (adc [] ad) hc) H.size) (n1 := hc.length) (a1 := adc [] ad) (post := post) (rest := rest.map (cV ad)) (mc := 0) (ms := 0) (va_runV (C := y.cls) (b := ad (.inl 1000000)) (As := as.map (cV ad)) ⟨X.1, X.2.1, X.2.2.1, X.2.2.2.1, X.2.2.2.2.1⟩ (hM D cs (adc [] ad) H.size) ⟨X.callB hL.1 hR (X.2.2.2.2.1 _ hL.2.1), X.2.2.2.2.1 _ hL.2.2.1, X.2.2.2.2.1 _ hL.2.2.2.1⟩ ⟨pre_blind, hrecv, X.pre hg hh hS hρ (as := .inr (some (.inl 1000000)) :: as) hP hD hnd hsub⟩ rfl hn1 hl.1 hstk hroom hd ⟨hc0, hs0⟩) hS hfree (fun r h' ad' H1 locs1 hp hg1 hP1 hD1 hk1 hS1 => p_after0 X hg hl hP hD hS hnd hcl hsub hg1 hP1 hD1 hk1 hS1 (hB r h' hp) hk)
end STR
/-! ===== Math ===== -/
def f_max (x y : Int32) : Int32 := if x < y then y else x
def f_min (x y : Int32) : Int32 := if y < x then y else x
def f_abs (x : Int32) : Int32 := if 0 ≤ x then x else 0 - x
def o_mmax (k : Blk) : Blk := fun L st h => match st with
  | .inl y :: .inl x :: r => Nat.ble r.length 8 = true ∧ k L (.inl (f_max x y) :: r) h
  | _ => False
def o_mmin (k : Blk) : Blk := fun L st h => match st with
  | .inl y :: .inl x :: r => Nat.ble r.length 8 = true ∧ k L (.inl (f_min x y) :: r) h
  | _ => False
def o_mabs (k : Blk) : Blk := fun L st h => match st with
  | .inl x :: r => Nat.ble r.length 8 = true ∧ k L (.inl (f_abs x) :: r) h
  | _ => False
section MATH
variable {p : Program} {l : Launch} {e : Env} {R : Room} {s : State} {m : MethodId} {args : Array Value} {below : List Frame} {meth : Method} {c : Code} {own nm : String} {cc : ByteArray} {nL : Nat} {rt : Option FieldType} {D : va_G} {cs : Nat → ClassId} {A : Nat → Prop} {n0 : Nat} {a0 : PR → Nat} {Q : State → Prop} {pc cells slots : Nat} {k kt kf : Blk}
theorem ok_mmax (X : MC p s m args meth c own nm cc nL rt D cs A a0) {idx : Nat} (hd : decode cc pc = .ok (.invokestatic idx, 3)) (hw : Cond.methodLink own idx Lib.Math.max.name ∈ TB ∧ Cond.static Lib.Math.max.name ∈ TB ∧ Cond.initialized "java/lang/Math" ∈ TB ∧ Cond.code Lib.Math.max.name Lib.Math.max.code 2 (some .int) ∈ TB) (hR : 1 ≤ R.frames ∧ 21 ≤ R.locals) (hc0 : cells ≤ R.cells) (hs0 : slots ≤ R.slots) (hk : BK p l e R s m args below meth c nL D cs A n0 a0 Q (pc + 3) cells slots k) : BK p l e R s m args below meth c nL D cs A n0 a0 Q pc cells slots (o_mmax k) := by
  intro ad ls L st h H locs hg hl hP hD hS hB
  unfold o_mmax at hB
  split at hB
  · rename_i y x r
    have h9 := hk ad ls L (.inl (f_max x y) :: r) h H locs hg hl hP hD hS hB.2
    have hr : ((r.map (cV ad)).map fun v => v.category).sum + 13 ≤ R.locals := by
      have h1 := Nat.ble_eq.mp hB.1
      have h2 := hR.2
      rw [cV_sum]
      omega
    exact va_mmax X.1 X.2.1 (X.2.2.1.trans hl.1.symm) X.2.2.2.1 (X.2.2.2.2.1 _ hw.1) (X.2.2.2.2.1 _ hw.2.1) (X.2.2.2.2.1 _ hw.2.2.1) (X.2.2.2.2.1 _ hw.2.2.2) hR.1 hr hc0 hs0 hd h9
  · exact hB.elim
theorem ok_mmin (X : MC p s m args meth c own nm cc nL rt D cs A a0) {idx : Nat} (hd : decode cc pc = .ok (.invokestatic idx, 3)) (hw : Cond.methodLink own idx Lib.Math.min.name ∈ TB ∧ Cond.static Lib.Math.min.name ∈ TB ∧ Cond.initialized "java/lang/Math" ∈ TB ∧ Cond.code Lib.Math.min.name Lib.Math.min.code 2 (some .int) ∈ TB) (hR : 1 ≤ R.frames ∧ 21 ≤ R.locals) (hc0 : cells ≤ R.cells) (hs0 : slots ≤ R.slots) (hk : BK p l e R s m args below meth c nL D cs A n0 a0 Q (pc + 3) cells slots k) : BK p l e R s m args below meth c nL D cs A n0 a0 Q pc cells slots (o_mmin k) := by
  intro ad ls L st h H locs hg hl hP hD hS hB
  unfold o_mmin at hB
  split at hB
  · rename_i y x r
    have h9 := hk ad ls L (.inl (f_min x y) :: r) h H locs hg hl hP hD hS hB.2
    have hr : ((r.map (cV ad)).map fun v => v.category).sum + 13 ≤ R.locals := by
      have h1 := Nat.ble_eq.mp hB.1
      have h2 := hR.2
      rw [cV_sum]
      omega
    exact va_mmin X.1 X.2.1 (X.2.2.1.trans hl.1.symm) X.2.2.2.1 (X.2.2.2.2.1 _ hw.1) (X.2.2.2.2.1 _ hw.2.1) (X.2.2.2.2.1 _ hw.2.2.1) (X.2.2.2.2.1 _ hw.2.2.2) hR.1 hr hc0 hs0 hd h9
  · exact hB.elim
theorem ok_mabs (X : MC p s m args meth c own nm cc nL rt D cs A a0) {idx : Nat} (hd : decode cc pc = .ok (.invokestatic idx, 3)) (hw : Cond.methodLink own idx Lib.Math.abs.name ∈ TB ∧ Cond.static Lib.Math.abs.name ∈ TB ∧ Cond.initialized "java/lang/Math" ∈ TB ∧ Cond.code Lib.Math.abs.name Lib.Math.abs.code 1 (some .int) ∈ TB) (hR : 1 ≤ R.frames ∧ 21 ≤ R.locals) (hc0 : cells ≤ R.cells) (hs0 : slots ≤ R.slots) (hk : BK p l e R s m args below meth c nL D cs A n0 a0 Q (pc + 3) cells slots k) : BK p l e R s m args below meth c nL D cs A n0 a0 Q pc cells slots (o_mabs k) := by
  intro ad ls L st h H locs hg hl hP hD hS hB
  unfold o_mabs at hB
  split at hB
  · rename_i x r
    have h9 := hk ad ls L (.inl (f_abs x) :: r) h H locs hg hl hP hD hS hB.2
    have hr : ((r.map (cV ad)).map fun v => v.category).sum + 13 ≤ R.locals := by
      have h1 := Nat.ble_eq.mp hB.1
      have h2 := hR.2
      rw [cV_sum]
      omega
    exact va_mabs X.1 X.2.1 (X.2.2.1.trans hl.1.symm) X.2.2.2.1 (X.2.2.2.2.1 _ hw.1) (X.2.2.2.2.1 _ hw.2.1) (X.2.2.2.2.1 _ hw.2.2.1) (X.2.2.2.2.1 _ hw.2.2.2) hR.1 hr hc0 hs0 hd h9
  · exact hB.elim
end MATH
