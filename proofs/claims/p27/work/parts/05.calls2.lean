/-! links of calls -/
def MLb (y : MethodName) (cc' : ByteArray) (maxL : Nat) (rt' : Option FieldType) (n : Nat) : Prop := Cond.code y cc' maxL rt' ∈ TB ∧ Cond.initialized y.cls ∈ TB ∧ (y.cls ≠ "java/lang/invoke/MethodHandle" ∧ y.cls ≠ "java/lang/invoke/VarHandle" ∧ (parseMethodDescriptor y.desc).map (fun d => d.parameters.length) = some n)
def recv (ci : Nat) (C : String) : Prop := ∃ (T : u_T) (N : Nat), vwCl[ci]? = some (C, T, N)
def MLV (own : String) (idx ci : Nat) (y : MethodName) (cc' : ByteArray) (maxL : Nat) (rt' : Option FieldType) (n : Nat) : Prop := MLb y cc' maxL rt' n ∧ Cond.methodLink own idx y ∈ TB ∧ Cond.instanceMethod y ∈ TB ∧ Cond.selects y.cls y y ∈ TB ∧ recv ci y.cls
def MLVN (own : String) (idx ci : Nat) (y : MethodName) (cc' : ByteArray) (maxL : Nat) (rt' : Option FieldType) (n : Nat) : Prop := MLb y cc' maxL rt' n ∧ (∃ host, Cond.methodLinkNest own idx y host ∈ NW) ∧ Cond.instanceMethod y ∈ TB ∧ Cond.selects y.cls y y ∈ TB ∧ recv ci y.cls
def MLS (own : String) (idx : Nat) (y : MethodName) (cc' : ByteArray) (maxL : Nat) (rt' : Option FieldType) (n : Nat) : Prop := MLb y cc' maxL rt' n ∧ Cond.methodLink own idx y ∈ TB ∧ Cond.static y ∈ TB
def MLSN (own : String) (idx : Nat) (y : MethodName) (cc' : ByteArray) (maxL : Nat) (rt' : Option FieldType) (n : Nat) : Prop := MLb y cc' maxL rt' n ∧ (∃ host, Cond.methodLinkNest own idx y host ∈ NW) ∧ Cond.static y ∈ TB
def MLI (own : String) (idx : Nat) (y : MethodName) (cc' : ByteArray) (maxL : Nat) (n : Nat) : Prop := MLb y cc' maxL none n ∧ Cond.methodLink own idx y ∈ TB ∧ Cond.instanceMethod y ∈ TB ∧ y.name = "<init>"
def MLIN (own : String) (idx : Nat) (y : MethodName) (cc' : ByteArray) (maxL : Nat) (n : Nat) : Prop := MLb y cc' maxL none n ∧ (∃ host, Cond.methodLinkNest own idx y host ∈ NW) ∧ Cond.instanceMethod y ∈ TB ∧ y.name = "<init>"
def MLU (own : String) (idx ci : Nat) (C : String) (x y : MethodName) (cc' : ByteArray) (maxL : Nat) (rt' : Option FieldType) (n : Nat) : Prop := MLb y cc' maxL rt' n ∧ y.name = x.name ∧ y.desc = x.desc ∧ Cond.methodLink own idx x ∈ TB ∧ Cond.sameMethod x.cls y.cls x.name x.desc ∈ TB ∧ Cond.instanceMethod y ∈ TB ∧ Cond.selects C x y ∈ TB ∧ recv ci C
theorem len_of {d : String} {n : Nat} (h : (parseMethodDescriptor d).map (fun d => d.parameters.length) = some n) : ∀ sig, parseMethodDescriptor d = some sig → n = sig.parameters.length := fun sig hs => by
  rw [hs] at h
  exact (Option.some.inj h).symm
theorem fm_of_map {ws ws' : va_W} {ρ : List Nat} (h : ρ.map (fun a => ws[a]?) = ws'.map some) : ρ.filterMap (fun a => ws[a]?) = ws' := by
  have : ρ.filterMap (fun a => ws[a]?) = (ρ.map (fun a => ws[a]?)).filterMap id := by rw [List.filterMap_map]; rfl
  rw [this, h, List.filterMap_map]
  simp
theorem pre_blind {D : va_G} {cs : Nat → ClassId} {ad : PR → Nat} {h : PH} {sz : Nat} {av : List Value} : FrameBlind (va_Pc av (prD D cs ad h sz)) := fun a U g mk q => by
  obtain ⟨q0, q1, qP, qK, qD, qN, qE⟩ := q
  exact ⟨q0, q1, qP, va_K.moved (u := U) (U := U.calling g mk a) (Vm.Alike.refl U.vm) qK, qD, fun w hw => NW_same hw (s := U) (U := U.calling g mk a) rfl (qN w hw), EV.same (U := U.calling g mk a) qE rfl⟩
theorem cV_re0 {ρ : List Nat} {nh : Nat} {ad : PR → Nat} (v : PV) : cV (adc ρ ad) v = cV ad (re1 ρ 0 nh v) := by
  rcases v with x | _ | i | _ | ⟨_ | a, t⟩
  · rfl
  · rfl
  · unfold re1
    dsimp only
    split
    · rename_i a ha
      rw [nth_eq] at ha
      show Value.ref (adc ρ ad (.inl i)) = _
      unfold adc
      dsimp only
      rw [ha]
      rfl
    · rename_i ha
      rw [nth_eq] at ha
      have hl : ρ.length ≤ i := by simpa using ha
      split
      · rename_i hb
        have := Nat.blt_eq.mp hb
        omega
      · show Value.ref (adc ρ ad (.inl i)) = _
        unfold adc
        dsimp only
        rw [ha]
        rfl
  · rfl
  · rfl
  · rfl
theorem cE_re0 {cs : Nat → ClassId} {ρ : List Nat} {nh : Nat} {ad : PR → Nat} (e : PE) : cE cs (adc ρ ad) e = cE cs ad (re2 ρ 0 nh e) := by
  rcases e with ⟨t, n, f⟩ | ⟨ci, fs⟩
  · rfl
  · show Sum.inr (ci, fs.map (cV (adc ρ ad))) = Sum.inr (ci, (fs.map (re1 ρ 0 nh)).map (cV ad))
    rw [List.map_map]
    exact congrArg (fun z => Sum.inr (ci, z)) (List.map_congr_left fun v _ => cV_re0 v)
section CALLS2
variable {p : Program} {l : Launch} {e : Env} {R : Room} {s : State} {m : MethodId} {args : Array Value} {below : List Frame} {meth : Method} {c : Code} {own nm : String} {cc : ByteArray} {nL : Nat} {rt : Option FieldType} {D : va_G} {cs : Nat → ClassId} {A : Nat → Prop} {n0 : Nat} {a0 : PR → Nat} {Q : State → Prop} {pc cells slots : Nat} {k kt kf : Blk}
theorem MC.callB {own' : String} (X : MC p s m args meth c own nm cc nL rt D cs A a0) {y : MethodName} {cc' : ByteArray} {maxL n d mc ms : Nat} {rt' : Option FieldType} (hb : MLb y cc' maxL rt' n) (hR : d + 1 ≤ R.frames ∧ 8 + (maxL + 11) + 64 * d ≤ R.locals) {idx : Nat} (hl : (Cond.methodLink own' idx y).before args s = true) : CallB R s args own' idx y cc' maxL rt' (Cond.code y cc' maxL rt' :: TB) (rmD d mc ms) mc ms n :=
  ⟨rfl, rfl, hR.1, hR.2, pay_in (big := TB) X.2.2.2.2.1 (fun w hw => by
    rcases List.mem_cons.mp hw with rfl | hw
    · exact ⟨hb.1, TB_good hb.1⟩
    · exact ⟨hw, TB_good hw⟩), List.mem_cons_self, X.2.2.2.2.1 _ hb.1, X.2.2.2.2.1 _ hb.2.1, ⟨hb.2.2.1, hb.2.2.2.1⟩, len_of hb.2.2.2.2, hl⟩
theorem MC.callN (X : MC p s m args meth c own nm cc nL rt D cs A a0) {y : MethodName} {cc' : ByteArray} {maxL n d mc ms : Nat} {rt' : Option FieldType} (hb : MLb y cc' maxL rt' n) (hR : d + 1 ≤ R.frames ∧ 8 + (maxL + 11) + 64 * d ≤ R.locals) {idx : Nat} {host : String} (hl : Cond.methodLinkNest own idx y host ∈ NW) : va_CN R s args own idx y host cc' maxL rt' (Cond.code y cc' maxL rt' :: TB) (rmD d mc ms) mc ms n :=
  ⟨⟨rfl, rfl, hR.1, hR.2, pay_in (big := TB) X.2.2.2.2.1 (fun w hw => by
    rcases List.mem_cons.mp hw with rfl | hw
    · exact ⟨hb.1, TB_good hb.1⟩
    · exact ⟨hw, TB_good hw⟩), List.mem_cons_self⟩, X.2.2.2.2.1 _ hb.1, X.2.2.2.2.1 _ hb.2.1, ⟨hb.2.2.1, hb.2.2.2.1⟩, len_of hb.2.2.2.2, va_Nw.use rfl (X.2.2.2.2.2.1 _ hl)⟩
theorem MC.pre (X : MC p s m args meth c own nm cc nL rt D cs A a0) {ad : PR → Nat} {h hc : PH} {H : Heap} {locs : List Loc} {ρ : List Nat} {as : List PV} (hg : ag n0 a0 ad h.length) (hh : h.length ≤ 1000000) (hS : va_S A s.heap H locs) (hρ : ρ.length ≤ 1000) (hP : va_P D vwCl (cW cs ad h) H) (hD : va_D A (cW cs ad h)) (hnd : va_nd ρ = true) (hsub : ρ.map (fun a => (cW cs ad h)[a]?) = (cW cs (adc ρ ad) hc).map some) : ∀ U : State, U.heap = H → s.WarmedH U.vm → va_Pc ((as.map (un1 ρ)).map (cV (adc ρ ad))) (prD D cs (adc ρ ad) hc H.size) (as.map (cV ad)).toArray U := fun U hU hW =>
  ⟨by rw [cV_unL hρ], by rw [hU], by rw [hU]; exact hP.sub ρ (fm_of_map hsub), va_K.moved hW.alike X.2.2.2.2.2.2.1, (hD.sub ρ hnd hsub).weaken (fun _ _ _ _ => trivial), fun w hw => NW_warm hw hW (X.2.2.2.2.2.1 w hw), by
    have hb : ∀ i : Nat, 1000000 ≤ i → adc ρ ad (.inl i) = a0 (.inl i) := fun i hi => by
      unfold adc
      dsimp only
      rw [List.getElem?_eq_none (by omega)]
      exact hg.2.1 i (Or.inr (by omega))
    rw [hb 1000000 (Nat.le_refl _), hb 1000001 (by omega), hU]
    exact EV.go X.2.2.2.2.2.2.2.2.2.2.2 hW hS.2.1 (va_free (wc := cW cs (adc ρ ad) hc) hD hS X.2.2.2.2.2.2.2.1 ρ hsub)⟩
/-- behind a call that made nothing -/
theorem p_after0 (X : MC p s m args meth c own nm cc nL rt D cs A a0) {ad : PR → Nat} {ls : Array Slot} {L : PL} {rest : List PV} {h hc h' : PH} {H H1 : Heap} {locs locs1 : List Loc} {ρ : List Nat} {r : Option PV} {ad' : PR → Nat} (hg : ag n0 a0 ad h.length) (hl : plr ad ls nL L) (hP : va_P D vwCl (cW cs ad h) H) (hD : va_D A (cW cs ad h)) (hS : va_S A s.heap H locs) (hnd : va_nd ρ = true) (hcl : hc.length = ρ.length) (hsub : ρ.map (fun a => (cW cs ad h)[a]?) = (cW cs (adc ρ ad) hc).map some)
    (hg1 : ag hc.length (adc ρ ad) ad' h'.length) (hP1 : va_P D vwCl (cW cs ad' h') H1) (hD1 : va_D (va_A (cW cs (adc ρ ad) hc) H.size) (cW cs ad' h')) (hk1 : ∀ q : Nat, q < H.size → ¬ va_A (cW cs (adc ρ ad) hc) H.size q → H1[q]? = H[q]?) (hS1 : va_S A s.heap H1 locs1)
    (hB : wbK ρ 0 h.length ρ h' h (fun h2 => match r with
      | none => k L rest h2
      | some v => reK ρ 0 h.length v (fun v' => k L (v' :: rest) h2))) (hk : BK p l e R s m args below meth c nL D cs A n0 a0 Q (pc + 3) cells slots k) : W p l e R s m args below meth c H1 locs1 cells slots Q (F0 m (pc + 3) ls ((r.map (cV ad')).toList ++ rest.map (cV ad))) := by
  obtain ⟨h2, hB, hh1, hh2, hh3, hh4, hh5⟩ := wbK_spec ρ 0 h.length ρ h' h _ (nd_inj hnd) hB
  have had : ad' = adc ρ ad := funext fun q => by
    cases q with
    | inl i => exact hg1.2.1 i (by omega)
    | inr t => exact hg1.2.2 t
  subst had
  have hw := p_world (ad2 := ad) (h2 := h2) hP hD hS X.2.2.2.2.2.2.2.1 (nd_inj hnd) hsub hk1 hP1 hD1 (fun x q hq => by
    rw [cW_at] at hq
    cases he : h2[x]? with
    | none => rw [he] at hq; cases hq
    | some e2 =>
      rw [he] at hq
      have hq' : (ad (.inl x), cE cs ad e2) = q := by simpa using hq
      subst hq'
      by_cases hx : x ∈ ρ
      · obtain ⟨i, hi⟩ := List.getElem?_of_mem hx
        refine Or.inr ⟨i, Or.inl hi, ?_⟩
        have h3 := (hh3 i x hi).2
        rw [he] at h3
        cases he' : h'[i]? with
        | none => rw [he'] at h3; cases h3
        | some e1 =>
          rw [he'] at h3
          have h4 : e2 = re2 ρ 0 h.length e1 := by simpa using h3
          rw [cW_get he', h4, cE_re0 (nh := h.length) e1]
          unfold adc
          dsimp only
          rw [hi]
      · have hlt : x < h.length := by
          have := (List.getElem?_eq_some_iff.mp he).1
          omega
        refine Or.inl ⟨hx, ?_⟩
        rw [hh4 x hlt hx] at he
        exact cW_get he) (fun i a hi => (hh3 i a hi).1)
  have hg2 : ag n0 a0 ad h2.length := by rw [hh2]; exact hg
  cases r with
  | none => exact hk ad ls L rest h2 H1 locs1 hg2 hl hw.1 hw.2 hS1 hB
  | some v =>
    have hB : reK ρ 0 h.length v (fun v' => k L (v' :: rest) h2) := hB
    rw [reK_eq] at hB
    have h9 := hk ad ls L (re1 ρ 0 h.length v :: rest) h2 H1 locs1 hg2 hl hw.1 hw.2 hS1 hB
    rw [List.map_cons, ← cV_re0 (nh := h.length) v] at h9
    exact h9

theorem ok_callV (X : MC p s m args meth c own nm cc nL rt D cs A a0) {d idx n maxL ci : Nat} {y : MethodName} {cc' : ByteArray} {rt' : Option FieldType} {ρ : List Nat} (hd : decode cc pc = .ok (.invokevirtual idx, 3)) (hL : MLV own idx ci y cc' maxL rt' n) (hR : d + 1 ≤ R.frames ∧ 8 + (maxL + 11) + 64 * d ≤ R.locals) (hc0 : cells ≤ R.cells) (hs0 : slots ≤ R.slots) (hk : BK p l e R s m args below meth c nL D cs A n0 a0 Q (pc + 3) cells slots k) : BK p l e R s m args below meth c nL D cs A n0 a0 Q pc cells slots (o_call (MetP l d y cc' maxL rt' 0 0) (some ci) (n + 1) ρ k) := by
  intro ad ls L st h H locs hg hl hP hD hS hB
  obtain ⟨as0, rest, hst, hlen, hB⟩ := popN_spec _ _ _ _ hB
  rw [List.append_nil] at hB
  unfold rcK at hB
  dsimp only at hB
  split at hB
  case h_2 => exact hB.elim
  rename_i a as
  split at hB
  case h_2 => exact hB.elim
  rename_i cj fs he
  split at hB
  case h_2 => exact hB.elim
  rename_i hcj
  rw [nth_eq] at he
  cases Nat.eq_of_beq_eq_true hcj
  obtain ⟨hle, hnd, hB⟩ := hB
  obtain ⟨hc, hB, hcl, hcs⟩ := pick_spec _ _ _ _ hB
  rw [unL_eq] at hB
  obtain ⟨post, hM, hB⟩ := hB
  obtain ⟨hle, hρ, hh1⟩ := ble2 hle
  have hh : h.length ≤ 1000000 := by omega
  have hsub := sub_cW (cs := cs) (ad := ad) hρ hcl hcs
  have hfree := va_free (wc := cW cs (adc ρ ad) hc) hD hS X.2.2.2.2.2.2.2.1 ρ hsub
  have hroom : 2 * (F0 m pc ls (st.map (cV ad))).monitorRoom + ((rest.map (cV ad)).map fun v => v.category).sum ≤ 8 := lv_room (by rw [cV_sum]; exact hle)
  have hrecv : ∃ cellB : Cell, H[ad (.inl a)]? = some cellB ∧ cellB.vm.isStatics = false ∧ s.vm.findClass y.cls = some cellB.cls := by
    obtain ⟨T0, N0, hci⟩ := hL.2.2.2.2
    exact va_recv X.2.2.2.2.2.2.1 hP hci (cW_get he)
  have hstk : st.map (cV ad) = (as.map (cV ad)).reverse ++ .ref (ad (.inl a)) :: rest.map (cV ad) := by rw [hst]; simp [cV]
  have hn1 : (as.map (cV ad)).length = n := by simpa using hlen
  exact p_call (A1 := va_A (cW cs (adc ρ ad) hc) H.size) (n1 := hc.length) (a1 := adc ρ ad) (post := post) (rest := rest.map (cV ad)) (mc := 0) (ms := 0) (va_runV (C := y.cls) (b := ad (.inl a)) (As := as.map (cV ad)) ⟨X.1, X.2.1, X.2.2.1, X.2.2.2.1, X.2.2.2.2.1⟩ (hM D cs (adc ρ ad) H.size) ⟨X.callB hL.1 hR (X.2.2.2.2.1 _ hL.2.1), X.2.2.2.2.1 _ hL.2.2.1, X.2.2.2.2.1 _ hL.2.2.2.1⟩ ⟨pre_blind, hrecv, X.pre hg hh hS hρ (as := .inr (some (.inl a)) :: as) hP hD hnd hsub⟩ rfl hn1 hl.1 hstk hroom hd ⟨hc0, hs0⟩) hS hfree (fun r h' ad' H1 locs1 hp hg1 hP1 hD1 hk1 hS1 => p_after0 X hg hl hP hD hS hnd hcl hsub hg1 hP1 hD1 hk1 hS1 (hB r h' hp) hk)

theorem ok_callVN (X : MC p s m args meth c own nm cc nL rt D cs A a0) {d idx n maxL ci : Nat} {y : MethodName} {cc' : ByteArray} {rt' : Option FieldType} {ρ : List Nat} (hd : decode cc pc = .ok (.invokevirtual idx, 3)) (hL : MLVN own idx ci y cc' maxL rt' n) (hR : d + 1 ≤ R.frames ∧ 8 + (maxL + 11) + 64 * d ≤ R.locals) (hc0 : cells ≤ R.cells) (hs0 : slots ≤ R.slots) (hk : BK p l e R s m args below meth c nL D cs A n0 a0 Q (pc + 3) cells slots k) : BK p l e R s m args below meth c nL D cs A n0 a0 Q pc cells slots (o_call (MetP l d y cc' maxL rt' 0 0) (some ci) (n + 1) ρ k) := by
  intro ad ls L st h H locs hg hl hP hD hS hB
  obtain ⟨as0, rest, hst, hlen, hB⟩ := popN_spec _ _ _ _ hB
  rw [List.append_nil] at hB
  unfold rcK at hB
  dsimp only at hB
  split at hB
  case h_2 => exact hB.elim
  rename_i a as
  split at hB
  case h_2 => exact hB.elim
  rename_i cj fs he
  split at hB
  case h_2 => exact hB.elim
  rename_i hcj
  rw [nth_eq] at he
  cases Nat.eq_of_beq_eq_true hcj
  obtain ⟨hle, hnd, hB⟩ := hB
  obtain ⟨hc, hB, hcl, hcs⟩ := pick_spec _ _ _ _ hB
  rw [unL_eq] at hB
  obtain ⟨post, hM, hB⟩ := hB
  obtain ⟨hle, hρ, hh1⟩ := ble2 hle
  have hh : h.length ≤ 1000000 := by omega
  have hsub := sub_cW (cs := cs) (ad := ad) hρ hcl hcs
  have hfree := va_free (wc := cW cs (adc ρ ad) hc) hD hS X.2.2.2.2.2.2.2.1 ρ hsub
  have hroom : 2 * (F0 m pc ls (st.map (cV ad))).monitorRoom + ((rest.map (cV ad)).map fun v => v.category).sum ≤ 8 := lv_room (by rw [cV_sum]; exact hle)
  obtain ⟨hL1, ⟨host, hL2⟩, hL3, hL4, hL5⟩ := hL
  have hrecv : ∃ cellB : Cell, H[ad (.inl a)]? = some cellB ∧ cellB.vm.isStatics = false ∧ s.vm.findClass y.cls = some cellB.cls := by
    obtain ⟨T0, N0, hci⟩ := hL5
    exact va_recv X.2.2.2.2.2.2.1 hP hci (cW_get he)
  have hstk : st.map (cV ad) = (as.map (cV ad)).reverse ++ .ref (ad (.inl a)) :: rest.map (cV ad) := by rw [hst]; simp [cV]
  have hn1 : (as.map (cV ad)).length = n := by simpa using hlen
  exact p_call (A1 := va_A (cW cs (adc ρ ad) hc) H.size) (n1 := hc.length) (a1 := adc ρ ad) (post := post) (rest := rest.map (cV ad)) (mc := 0) (ms := 0) (va_runVN (C := y.cls) (b := ad (.inl a)) (As := as.map (cV ad)) ⟨X.1, X.2.1, X.2.2.1, X.2.2.2.1, X.2.2.2.2.1⟩ (hM D cs (adc ρ ad) H.size) ⟨X.callN hL1 hR hL2, X.2.2.2.2.1 _ hL3, X.2.2.2.2.1 _ hL4⟩ ⟨pre_blind, hrecv, X.pre hg hh hS hρ (as := .inr (some (.inl a)) :: as) hP hD hnd hsub⟩ rfl hn1 hl.1 hstk hroom hd ⟨hc0, hs0⟩) hS hfree (fun r h' ad' H1 locs1 hp hg1 hP1 hD1 hk1 hS1 => p_after0 X hg hl hP hD hS hnd hcl hsub hg1 hP1 hD1 hk1 hS1 (hB r h' hp) hk)

theorem ok_callU (X : MC p s m args meth c own nm cc nL rt D cs A a0) {d idx n maxL ci : Nat} {C : String} {x y : MethodName} {cc' : ByteArray} {rt' : Option FieldType} {ρ : List Nat} (hd : decode cc pc = .ok (.invokevirtual idx, 3)) (hL : MLU own idx ci C x y cc' maxL rt' n) (hR : d + 1 ≤ R.frames ∧ 8 + (maxL + 11) + 64 * d ≤ R.locals) (hc0 : cells ≤ R.cells) (hs0 : slots ≤ R.slots) (hk : BK p l e R s m args below meth c nL D cs A n0 a0 Q (pc + 3) cells slots k) : BK p l e R s m args below meth c nL D cs A n0 a0 Q pc cells slots (o_call (MetP l d y cc' maxL rt' 0 0) (some ci) (n + 1) ρ k) := by
  intro ad ls L st h H locs hg hl hP hD hS hB
  obtain ⟨as0, rest, hst, hlen, hB⟩ := popN_spec _ _ _ _ hB
  rw [List.append_nil] at hB
  unfold rcK at hB
  dsimp only at hB
  split at hB
  case h_2 => exact hB.elim
  rename_i a as
  split at hB
  case h_2 => exact hB.elim
  rename_i cj fs he
  split at hB
  case h_2 => exact hB.elim
  rename_i hcj
  rw [nth_eq] at he
  cases Nat.eq_of_beq_eq_true hcj
  obtain ⟨hle, hnd, hB⟩ := hB
  obtain ⟨hc, hB, hcl, hcs⟩ := pick_spec _ _ _ _ hB
  rw [unL_eq] at hB
  obtain ⟨post, hM, hB⟩ := hB
  obtain ⟨hle, hρ, hh1⟩ := ble2 hle
  have hh : h.length ≤ 1000000 := by omega
  have hsub := sub_cW (cs := cs) (ad := ad) hρ hcl hcs
  have hfree := va_free (wc := cW cs (adc ρ ad) hc) hD hS X.2.2.2.2.2.2.2.1 ρ hsub
  have hroom : 2 * (F0 m pc ls (st.map (cV ad))).monitorRoom + ((rest.map (cV ad)).map fun v => v.category).sum ≤ 8 := lv_room (by rw [cV_sum]; exact hle)
  obtain ⟨hL1, hL2, hL3, hL4, hL5, hL6, hL7, hL8⟩ := hL
  have hyx : y = ⟨y.cls, x.name, x.desc⟩ := by rw [← hL2, ← hL3]
  have hcw : va_CU R s args own C y.cls idx x y cc' maxL rt' (Cond.code y cc' maxL rt' :: TB) (rmD d 0 0) 0 0 n := by
    refine ⟨⟨rfl, rfl, hR.1, hR.2, pay_in (big := TB) X.2.2.2.2.1 (fun w hw => by
      rcases List.mem_cons.mp hw with rfl | hw
      · exact ⟨hL1.1, TB_good hL1.1⟩
      · exact ⟨hw, TB_good hw⟩), List.mem_cons_self⟩, X.2.2.2.2.1 _ hL1.1, X.2.2.2.2.1 _ hL1.2.1, ⟨hL1.2.2.1, hL1.2.2.2.1⟩, len_of (by rw [← hL3]; exact hL1.2.2.2.2), X.2.2.2.2.1 _ hL4, X.2.2.2.2.1 _ hL5, ?_, X.2.2.2.2.1 _ hL7, X.2.2.2.2.1 _ hL6⟩
    rw [← hyx]
    exact va_Decl.of (X.2.2.2.2.1 _ hL6) (X.2.2.2.2.1 _ hL1.1)
  have hrecv : ∃ cellB : Cell, H[ad (.inl a)]? = some cellB ∧ cellB.vm.isStatics = false ∧ s.vm.findClass C = some cellB.cls := by
    obtain ⟨T0, N0, hci⟩ := hL8
    exact va_recv X.2.2.2.2.2.2.1 hP hci (cW_get he)
  have hstk : st.map (cV ad) = (as.map (cV ad)).reverse ++ .ref (ad (.inl a)) :: rest.map (cV ad) := by rw [hst]; simp [cV]
  have hn1 : (as.map (cV ad)).length = n := by simpa using hlen
  exact p_call (A1 := va_A (cW cs (adc ρ ad) hc) H.size) (n1 := hc.length) (a1 := adc ρ ad) (post := post) (rest := rest.map (cV ad)) (mc := 0) (ms := 0) (va_runU (C := C) (b := ad (.inl a)) (As := as.map (cV ad)) ⟨X.1, X.2.1, X.2.2.1, X.2.2.2.1, X.2.2.2.2.1⟩ (hM D cs (adc ρ ad) H.size) hcw ⟨pre_blind, hrecv, X.pre hg hh hS hρ (as := .inr (some (.inl a)) :: as) hP hD hnd hsub⟩ rfl hn1 hl.1 hstk hroom hd ⟨hc0, hs0⟩) hS hfree (fun r h' ad' H1 locs1 hp hg1 hP1 hD1 hk1 hS1 => p_after0 X hg hl hP hD hS hnd hcl hsub hg1 hP1 hD1 hk1 hS1 (hB r h' hp) hk)

theorem ok_callUL (X : MC p s m args meth c own nm cc nL rt D cs A a0) {d idx n maxL : Nat} {cis : List Nat} {x y : MethodName} {cc' : ByteArray} {rt' : Option FieldType} {ρ : List Nat} (hd : decode cc pc = .ok (.invokevirtual idx, 3)) (hLL : ∀ ci ∈ cis, ∃ C, MLU own idx ci C x y cc' maxL rt' n) (hR : d + 1 ≤ R.frames ∧ 8 + (maxL + 11) + 64 * d ≤ R.locals) (hc0 : cells ≤ R.cells) (hs0 : slots ≤ R.slots) (hk : BK p l e R s m args below meth c nL D cs A n0 a0 Q (pc + 3) cells slots k) : BK p l e R s m args below meth c nL D cs A n0 a0 Q pc cells slots (o_callL (MetP l d y cc' maxL rt' 0 0) cis (n + 1) ρ k) := by
  intro ad ls L st h H locs hg hl hP hD hS hB
  obtain ⟨as0, rest, hst, hlen, hB⟩ := popN_spec _ _ _ _ hB
  rw [List.append_nil] at hB
  split at hB
  case h_2 => exact hB.elim
  rename_i a as
  split at hB
  case h_2 => exact hB.elim
  rename_i cj fs he
  split at hB
  case h_2 => exact hB.elim
  rename_i hcj
  rw [nth_eq] at he
  obtain ⟨C, hL⟩ := hLL cj (contains_mem hcj)
  obtain ⟨hle, hnd, hB⟩ := hB
  obtain ⟨hc, hB, hcl, hcs⟩ := pick_spec _ _ _ _ hB
  rw [unL_eq] at hB
  obtain ⟨post, hM, hB⟩ := hB
  obtain ⟨hle, hρ, hh1⟩ := ble2 hle
  have hh : h.length ≤ 1000000 := by omega
  have hsub := sub_cW (cs := cs) (ad := ad) hρ hcl hcs
  have hfree := va_free (wc := cW cs (adc ρ ad) hc) hD hS X.2.2.2.2.2.2.2.1 ρ hsub
  have hroom : 2 * (F0 m pc ls (st.map (cV ad))).monitorRoom + ((rest.map (cV ad)).map fun v => v.category).sum ≤ 8 := lv_room (by rw [cV_sum]; exact hle)
  obtain ⟨hL1, hL2, hL3, hL4, hL5, hL6, hL7, hL8⟩ := hL
  have hyx : y = ⟨y.cls, x.name, x.desc⟩ := by rw [← hL2, ← hL3]
  have hcw : va_CU R s args own C y.cls idx x y cc' maxL rt' (Cond.code y cc' maxL rt' :: TB) (rmD d 0 0) 0 0 n := by
    refine ⟨⟨rfl, rfl, hR.1, hR.2, pay_in (big := TB) X.2.2.2.2.1 (fun w hw => by
      rcases List.mem_cons.mp hw with rfl | hw
      · exact ⟨hL1.1, TB_good hL1.1⟩
      · exact ⟨hw, TB_good hw⟩), List.mem_cons_self⟩, X.2.2.2.2.1 _ hL1.1, X.2.2.2.2.1 _ hL1.2.1, ⟨hL1.2.2.1, hL1.2.2.2.1⟩, len_of (by rw [← hL3]; exact hL1.2.2.2.2), X.2.2.2.2.1 _ hL4, X.2.2.2.2.1 _ hL5, ?_, X.2.2.2.2.1 _ hL7, X.2.2.2.2.1 _ hL6⟩
    rw [← hyx]
    exact va_Decl.of (X.2.2.2.2.1 _ hL6) (X.2.2.2.2.1 _ hL1.1)
  have hrecv : ∃ cellB : Cell, H[ad (.inl a)]? = some cellB ∧ cellB.vm.isStatics = false ∧ s.vm.findClass C = some cellB.cls := by
    obtain ⟨T0, N0, hci⟩ := hL8
    exact va_recv X.2.2.2.2.2.2.1 hP hci (cW_get he)
  have hstk : st.map (cV ad) = (as.map (cV ad)).reverse ++ .ref (ad (.inl a)) :: rest.map (cV ad) := by rw [hst]; simp [cV]
  have hn1 : (as.map (cV ad)).length = n := by simpa using hlen
  exact p_call (A1 := va_A (cW cs (adc ρ ad) hc) H.size) (n1 := hc.length) (a1 := adc ρ ad) (post := post) (rest := rest.map (cV ad)) (mc := 0) (ms := 0) (va_runU (C := C) (b := ad (.inl a)) (As := as.map (cV ad)) ⟨X.1, X.2.1, X.2.2.1, X.2.2.2.1, X.2.2.2.2.1⟩ (hM D cs (adc ρ ad) H.size) hcw ⟨pre_blind, hrecv, X.pre hg hh hS hρ (as := .inr (some (.inl a)) :: as) hP hD hnd hsub⟩ rfl hn1 hl.1 hstk hroom hd ⟨hc0, hs0⟩) hS hfree (fun r h' ad' H1 locs1 hp hg1 hP1 hD1 hk1 hS1 => p_after0 X hg hl hP hD hS hnd hcl hsub hg1 hP1 hD1 hk1 hS1 (hB r h' hp) hk)

theorem ok_callS (X : MC p s m args meth c own nm cc nL rt D cs A a0) {d idx n maxL : Nat} {y : MethodName} {cc' : ByteArray} {rt' : Option FieldType} {ρ : List Nat} (hd : decode cc pc = .ok (.invokestatic idx, 3)) (hL : MLS own idx y cc' maxL rt' n) (hR : d + 1 ≤ R.frames ∧ 8 + (maxL + 11) + 64 * d ≤ R.locals) (hc0 : cells ≤ R.cells) (hs0 : slots ≤ R.slots) (hk : BK p l e R s m args below meth c nL D cs A n0 a0 Q (pc + 3) cells slots k) : BK p l e R s m args below meth c nL D cs A n0 a0 Q pc cells slots (o_call (MetP l d y cc' maxL rt' 0 0) none n ρ k) := by
  intro ad ls L st h H locs hg hl hP hD hS hB
  obtain ⟨as0, rest, hst, hlen, hB⟩ := popN_spec _ _ _ _ hB
  rw [List.append_nil] at hB
  have hB : (Nat.ble rest.length 8 && Nat.ble ρ.length 1000 && Nat.ble h.length 1000) = true ∧ va_nd ρ = true ∧ pick ρ h ρ _ := hB
  obtain ⟨hle, hnd, hB⟩ := hB
  obtain ⟨hc, hB, hcl, hcs⟩ := pick_spec _ _ _ _ hB
  rw [unL_eq] at hB
  obtain ⟨post, hM, hB⟩ := hB
  obtain ⟨hle, hρ, hh1⟩ := ble2 hle
  have hh : h.length ≤ 1000000 := by omega
  have hsub := sub_cW (cs := cs) (ad := ad) hρ hcl hcs
  have hfree := va_free (wc := cW cs (adc ρ ad) hc) hD hS X.2.2.2.2.2.2.2.1 ρ hsub
  have hroom : 2 * (F0 m pc ls (st.map (cV ad))).monitorRoom + ((rest.map (cV ad)).map fun v => v.category).sum ≤ 8 := lv_room (by rw [cV_sum]; exact hle)
  have hstk : st.map (cV ad) = (as0.map (cV ad)).reverse ++ rest.map (cV ad) := by rw [hst]; simp
  have hn1 : (as0.map (cV ad)).length = n := by simpa using hlen
  exact p_call (A1 := va_A (cW cs (adc ρ ad) hc) H.size) (n1 := hc.length) (a1 := adc ρ ad) (post := post) (rest := rest.map (cV ad)) (mc := 0) (ms := 0) (va_runS (As := as0.map (cV ad)) ⟨X.1, X.2.1, X.2.2.1, X.2.2.2.1, X.2.2.2.2.1⟩ (hM D cs (adc ρ ad) H.size) ⟨X.callB hL.1 hR (X.2.2.2.2.1 _ hL.2.1), X.2.2.2.2.1 _ hL.2.2⟩ ⟨pre_blind, X.pre hg hh hS hρ (as := as0) hP hD hnd hsub⟩ rfl hn1 hl.1 hstk hroom hd ⟨hc0, hs0⟩) hS hfree (fun r h' ad' H1 locs1 hp hg1 hP1 hD1 hk1 hS1 => p_after0 X hg hl hP hD hS hnd hcl hsub hg1 hP1 hD1 hk1 hS1 (hB r h' hp) hk)

theorem ok_callSN (X : MC p s m args meth c own nm cc nL rt D cs A a0) {d idx n maxL : Nat} {y : MethodName} {cc' : ByteArray} {rt' : Option FieldType} {ρ : List Nat} (hd : decode cc pc = .ok (.invokestatic idx, 3)) (hL : MLSN own idx y cc' maxL rt' n) (hR : d + 1 ≤ R.frames ∧ 8 + (maxL + 11) + 64 * d ≤ R.locals) (hc0 : cells ≤ R.cells) (hs0 : slots ≤ R.slots) (hk : BK p l e R s m args below meth c nL D cs A n0 a0 Q (pc + 3) cells slots k) : BK p l e R s m args below meth c nL D cs A n0 a0 Q pc cells slots (o_call (MetP l d y cc' maxL rt' 0 0) none n ρ k) := by
  intro ad ls L st h H locs hg hl hP hD hS hB
  obtain ⟨as0, rest, hst, hlen, hB⟩ := popN_spec _ _ _ _ hB
  rw [List.append_nil] at hB
  have hB : (Nat.ble rest.length 8 && Nat.ble ρ.length 1000 && Nat.ble h.length 1000) = true ∧ va_nd ρ = true ∧ pick ρ h ρ _ := hB
  obtain ⟨hle, hnd, hB⟩ := hB
  obtain ⟨hc, hB, hcl, hcs⟩ := pick_spec _ _ _ _ hB
  rw [unL_eq] at hB
  obtain ⟨post, hM, hB⟩ := hB
  obtain ⟨hle, hρ, hh1⟩ := ble2 hle
  have hh : h.length ≤ 1000000 := by omega
  have hsub := sub_cW (cs := cs) (ad := ad) hρ hcl hcs
  have hfree := va_free (wc := cW cs (adc ρ ad) hc) hD hS X.2.2.2.2.2.2.2.1 ρ hsub
  have hroom : 2 * (F0 m pc ls (st.map (cV ad))).monitorRoom + ((rest.map (cV ad)).map fun v => v.category).sum ≤ 8 := lv_room (by rw [cV_sum]; exact hle)
  obtain ⟨hL1, ⟨host, hL2⟩, hL3⟩ := hL
  have hstk : st.map (cV ad) = (as0.map (cV ad)).reverse ++ rest.map (cV ad) := by rw [hst]; simp
  have hn1 : (as0.map (cV ad)).length = n := by simpa using hlen
  exact p_call (A1 := va_A (cW cs (adc ρ ad) hc) H.size) (n1 := hc.length) (a1 := adc ρ ad) (post := post) (rest := rest.map (cV ad)) (mc := 0) (ms := 0) (va_runSN (As := as0.map (cV ad)) ⟨X.1, X.2.1, X.2.2.1, X.2.2.2.1, X.2.2.2.2.1⟩ (hM D cs (adc ρ ad) H.size) ⟨X.callN hL1 hR hL2, X.2.2.2.2.1 _ hL3, trivial⟩ ⟨pre_blind, X.pre hg hh hS hρ (as := as0) hP hD hnd hsub⟩ rfl hn1 hl.1 hstk hroom hd ⟨hc0, hs0⟩) hS hfree (fun r h' ad' H1 locs1 hp hg1 hP1 hD1 hk1 hS1 => p_after0 X hg hl hP hD hS hnd hcl hsub hg1 hP1 hD1 hk1 hS1 (hB r h' hp) hk)

end CALLS2
